abbrev cX12_open : ByteArray := prog_13_method_85_code
def yX12_open : MethodName := ⟨"SyncTreeModel", "open", "()I"⟩
theorem Y_X12_open : tYH yX12_open cX12_open 3 (some .int) [(5, 21, 73, 425), (22, 34, 73, 425), (35, 63, 73, 425), (64, 72, 73, 425)] 0 := ⟨W_8_216, W_1_14, ⟨by decide +kernel, by decide +kernel⟩, by decide +kernel⟩
theorem dX12_open_0 : decode cX12_open 0 = .ok (.aload_n 0, 1) := by decide +kernel
theorem dX12_open_1 : decode cX12_open 1 = .ok (.iconst 0, 1) := by decide +kernel
theorem dX12_open_2 : decode cX12_open 2 = .ok (.putfield 3, 3) := by decide +kernel
theorem dX12_open_5 : decode cX12_open 5 = .ok (.aload_n 0, 1) := by decide +kernel
theorem dX12_open_6 : decode cX12_open 6 = .ok (.invokevirtual 403, 3) := by decide +kernel
theorem dX12_open_9 : decode cX12_open 9 = .ok (.aload_n 0, 1) := by decide +kernel
theorem dX12_open_10 : decode cX12_open 10 = .ok (.iconst 0, 1) := by decide +kernel
theorem dX12_open_11 : decode cX12_open 11 = .ok (.iconst 1, 1) := by decide +kernel
theorem dX12_open_12 : decode cX12_open 12 = .ok (.invokevirtual 430, 3) := by decide +kernel
theorem dX12_open_15 : decode cX12_open 15 = .ok (.istore_n 1, 1) := by decide +kernel
theorem dX12_open_16 : decode cX12_open 16 = .ok (.iload_n 1, 1) := by decide +kernel
theorem dX12_open_17 : decode cX12_open 17 = .ok (.ifCond .ge 5, 3) := by decide +kernel
theorem dX12_open_20 : decode cX12_open 20 = .ok (.iload_n 1, 1) := by decide +kernel
theorem dX12_open_21 : decode cX12_open 21 = .ok (.ireturn, 1) := by decide +kernel
theorem dX12_open_22 : decode cX12_open 22 = .ok (.aload_n 0, 1) := by decide +kernel
theorem dX12_open_23 : decode cX12_open 23 = .ok (.iload_n 1, 1) := by decide +kernel
theorem dX12_open_24 : decode cX12_open 24 = .ok (.iconst 0, 1) := by decide +kernel
theorem dX12_open_25 : decode cX12_open 25 = .ok (.invokevirtual 247, 3) := by decide +kernel
theorem dX12_open_28 : decode cX12_open 28 = .ok (.iconst 2, 1) := by decide +kernel
theorem dX12_open_29 : decode cX12_open 29 = .ok (.if_icmp .ne 6, 3) := by decide +kernel
theorem dX12_open_32 : decode cX12_open 32 = .ok (.bipush (-4), 2) := by decide +kernel
theorem dX12_open_34 : decode cX12_open 34 = .ok (.ireturn, 1) := by decide +kernel
theorem dX12_open_35 : decode cX12_open 35 = .ok (.iconst 0, 1) := by decide +kernel
theorem dX12_open_36 : decode cX12_open 36 = .ok (.istore_n 2, 1) := by decide +kernel
theorem dX12_open_37 : decode cX12_open 37 = .ok (.iload_n 2, 1) := by decide +kernel
theorem dX12_open_38 : decode cX12_open 38 = .ok (.bipush 16, 2) := by decide +kernel
theorem dX12_open_40 : decode cX12_open 40 = .ok (.if_icmp .ge 30, 3) := by decide +kernel
theorem dX12_open_43 : decode cX12_open 43 = .ok (.aload_n 0, 1) := by decide +kernel
theorem dX12_open_44 : decode cX12_open 44 = .ok (.getfield 286, 3) := by decide +kernel
theorem dX12_open_47 : decode cX12_open 47 = .ok (.iload_n 2, 1) := by decide +kernel
theorem dX12_open_48 : decode cX12_open 48 = .ok (.iaload, 1) := by decide +kernel
theorem dX12_open_49 : decode cX12_open 49 = .ok (.ifCond .lt 6, 3) := by decide +kernel
theorem dX12_open_52 : decode cX12_open 52 = .ok (.goto 12, 3) := by decide +kernel
theorem dX12_open_55 : decode cX12_open 55 = .ok (.aload_n 0, 1) := by decide +kernel
theorem dX12_open_56 : decode cX12_open 56 = .ok (.getfield 286, 3) := by decide +kernel
theorem dX12_open_59 : decode cX12_open 59 = .ok (.iload_n 2, 1) := by decide +kernel
theorem dX12_open_60 : decode cX12_open 60 = .ok (.iload_n 1, 1) := by decide +kernel
theorem dX12_open_61 : decode cX12_open 61 = .ok (.iastore, 1) := by decide +kernel
theorem dX12_open_62 : decode cX12_open 62 = .ok (.iload_n 2, 1) := by decide +kernel
theorem dX12_open_63 : decode cX12_open 63 = .ok (.ireturn, 1) := by decide +kernel
theorem dX12_open_64 : decode cX12_open 64 = .ok (.iinc 2 1, 3) := by decide +kernel
theorem dX12_open_67 : decode cX12_open 67 = .ok (.goto (-30), 3) := by decide +kernel
theorem dX12_open_70 : decode cX12_open 70 = .ok (.bipush (-10), 2) := by decide +kernel
theorem dX12_open_72 : decode cX12_open 72 = .ok (.ireturn, 1) := by decide +kernel
theorem dX12_open_73 : decode cX12_open 73 = .ok (.astore_n 1, 1) := by decide +kernel
theorem dX12_open_74 : decode cX12_open 74 = .ok (.aload_n 0, 1) := by decide +kernel
theorem dX12_open_75 : decode cX12_open 75 = .ok (.invokevirtual 427, 3) := by decide +kernel
theorem dX12_open_78 : decode cX12_open 78 = .ok (.ireturn, 1) := by decide +kernel
set_option maxRecDepth 100000 in
set_option maxHeartbeats 1000000 in
theorem l_X12_open_37 {p : Program} {l : Launch} {e : Env} {s : State} {m : MethodId} {args : Array Value} {below : List Frame} {meth : Method} {c : Code} {D : va_G} {aC : Nat → ClassId} {b0 fu : Nat} {σ0 τ : tM} {v : Int32}  (C : tCx p l s m args meth c yX12_open.cls cX12_open 3 (some .int) D aC b0 σ0) (htab : c.exceptionTable.toList = tableOf [(5, 21, 73, 425), (22, 34, 73, 425), (35, 63, 73, 425), (64, 72, 73, 425)]) (hin : meth.name = yX12_open.name)  : ∀ (n : Nat) (x0 : Nat) (x1 : Int32) (x2 : Int32) (σ : tM), L_X12_open_37 b0 fu  n x0 x1 x2 σ = some (v, τ) → tX p l e s m args below meth c 3 9 215 D aC b0 σ0 (.inl (some (.int v))) τ 37 [(0, .ref (x0)), (1, .int (x1)), (2, .int (x2))] [] σ := by
  intro n
  induction n with
  | zero => intro x0 x1 x2 σ hm; unfold L_X12_open_37 at hm; cases hm
  | succ n ih =>
    intro x0 x1 x2 σ hm
    unfold L_X12_open_37 at hm
    obtain ⟨rc37, hrc⟩ : ∃ z, z = L_X12_open_37 b0 fu  n := ⟨_, rfl⟩
    replace hm := ltb_e hm hrc
    rw [← hrc] at ih
    have hrc37 := ih
    clear ih hrc
    refine zx_iload_n C dX12_open_37 2 rfl ?_
    refine zx_bipush (v := 16) C dX12_open_38 (by decide) ?_
    refine zx_icmp_ge C 70 dX12_open_40 (by decide) (fun c18 => ?_) (fun c18 => ?_)
    · replace hm := ip_e hm c18
      refine zx_bipush (v := (-10)) C dX12_open_70 (by decide) ?_
      obtain ⟨rfl, rfl⟩ := ret_e hm
      exact zx_iret C rfl rfl rfl dX12_open_72
    · replace hm := in_e hm c18
      refine zx_aload_n C dX12_open_43 0 rfl ?_
      obtain ⟨k19, i20, hm⟩ := ckO_e hm
      obtain ⟨a21, h22, hm⟩ := osm_e hm
      refine zx_get (j := 58) C tC_11 k19 i20 ⟨by decide, Or.inl W_7_37⟩ dX12_open_44 (.ref a21) (rf_s h22) ?_
      refine zx_iload_n C dX12_open_47 2 rfl ?_
      obtain ⟨n25, k23, i24, hm⟩ := ckR_e hm
      obtain ⟨h26, hm⟩ := ckI_e hm
      refine zx_iald C k23 i24 h26 dX12_open_48 ?_
      refine zx_if_lt C 55 dX12_open_49 (by decide) (fun c27 => ?_) (fun c27 => ?_)
      · replace hm := ip_e hm c27
        refine zx_aload_n C dX12_open_55 0 rfl ?_
        obtain ⟨a28, h29, hm⟩ := osm_e hm
        refine zx_get (j := 58) C tC_11 k19 i20 ⟨by decide, Or.inl W_7_37⟩ dX12_open_56 (.ref a28) (rf_s h29) ?_
        refine zx_iload_n C dX12_open_59 2 rfl ?_
        refine zx_iload_n C dX12_open_60 1 rfl ?_
        obtain ⟨n32, k30, i31, hm⟩ := ckR_e hm
        obtain ⟨h33, hm⟩ := ckI_e hm
        refine zx_iast C k30 i31 h33 dX12_open_61 ?_
        refine zx_iload_n C dX12_open_62 2 rfl ?_
        obtain ⟨rfl, rfl⟩ := ret_e hm
        exact zx_iret C rfl rfl rfl dX12_open_63
      · replace hm := in_e hm c27
        refine zx_goto C 64 dX12_open_52 (by decide) ?_
        obtain ⟨y34, hy34⟩ : ∃ z : Int32, z = (x2) + Int32.ofInt 1 := ⟨_, rfl⟩
        replace hm := ltb_e hm hy34
        refine zx_iinc C [(2, .int (y34)), (0, .ref (x0)), (1, .int (x1))] dX12_open_64 2 rfl hy34.symm (by decide) rfl ?_
        refine zx_goto C 37 dX12_open_67 (by decide) ?_
        exact zx_lv [1, 2, 0] [(0, .ref (x0)), (1, .int (x1)), (2, .int (y34))] rfl (hrc37 _ _ _ _ hm)
set_option maxRecDepth 100000 in
set_option maxHeartbeats 1000000 in
theorem c_X12_open {l : Launch} {D : va_G} {aC : Nat → ClassId} {b0 fu : Nat} {a0 : Nat} {σ τ : tM} {v : Int32} (hm : m_X12_open b0 fu a0 σ = some (v, τ)) : tMt l D aC b0 yX12_open (Cond.codeWith yX12_open cX12_open 3 (some .int) [(5, 21, 73, 425), (22, 34, 73, 425), (35, 63, 73, 425), (64, 72, 73, 425)]) 9 215 [.ref (a0)] σ (.inl (some (.int v))) τ := by
  unfold m_X12_open at hm
  obtain ⟨hg, hm⟩ := grw_e hm
  refine tMt_ofH rfl (Nat.le_of_ble_eq_true rfl) hg ?_
  intro p e s m below meth c C htab hin
  refine zx_lv [0] [(0, .ref (a0))] rfl ?_
  refine zx_aload_n C dX12_open_0 0 rfl ?_
  refine zx_iconst (v := 0) C dX12_open_1 (by decide) ?_
  obtain ⟨k1, i2, hm⟩ := ckO_e hm
  refine zx_put (j := 0) (ρ := sI (σ) (a0) 0 (0)) C tC_11 k1 i2 ⟨by decide, Or.inl W_6_220⟩ rfl rfl rfl (sI_ok (fun _ => rfl)) dX12_open_2 ?_
  refine zx_aload_n C dX12_open_5 0 rfl ?_
  rcases cly_e hm with ⟨v3, ρ4, h5, hm⟩ | ⟨ρ36, h5, hm⟩
  · refine zx_callV (σ := sI (σ) (a0) 0 (0)) C [] tC_11 k1 i2 Y_X12_up W_7_179 W_7_181 Wp_57 (c_X12_up h5) (by decide) (by decide) rfl (Nat.le_of_ble_eq_true rfl) dX12_open_6 rfl ?_
    refine zx_aload_n C dX12_open_9 0 rfl ?_
    refine zx_iconst (v := 0) C dX12_open_10 (by decide) ?_
    refine zx_iconst (v := 1) C dX12_open_11 (by decide) ?_
    obtain ⟨k6, i7, hm⟩ := ckO_e hm
    obtain ⟨v8, ρ9, h10, hm⟩ := cll_e hm
    refine zx_callV (σ := ρ4) C [.int (0), .int (1)] tC_11 k6 i7 Y_X12_walkTo W_8_151 W_8_153 Wp_104 (c_X12_walkTo h10) (by decide) (by decide) rfl (Nat.le_of_ble_eq_true rfl) dX12_open_12 rfl ?_
    refine zx_istore_n C [(1, .int (v8)), (0, .ref (a0))] dX12_open_15 rfl (by decide) rfl ?_
    refine zx_iload_n C dX12_open_16 0 rfl ?_
    refine zx_if_ge C 22 dX12_open_17 (by decide) (fun c11 => ?_) (fun c11 => ?_)
    · replace hm := ip_e hm c11
      refine zx_aload_n C dX12_open_22 1 rfl ?_
      refine zx_iload_n C dX12_open_23 0 rfl ?_
      refine zx_iconst (v := 0) C dX12_open_24 (by decide) ?_
      obtain ⟨k12, i13, hm⟩ := ckO_e hm
      obtain ⟨v14, ρ15, h16, hm⟩ := cll_e hm
      refine zx_callV (σ := ρ9) C [.int (v8), .int (0)] tC_11 k12 i13 Y_X12_node W_8_40 W_8_42 Wp_80 (c_X12_node h16) (by decide) (by decide) rfl (Nat.le_of_ble_eq_true rfl) dX12_open_25 rfl ?_
      refine zx_iconst (v := 2) C dX12_open_28 (by decide) ?_
      refine zx_icmp_ne C 35 dX12_open_29 (by decide) (fun c17 => ?_) (fun c17 => ?_)
      · replace hm := in_e hm c17
        refine zx_iconst (v := 0) C dX12_open_35 (by decide) ?_
        refine zx_istore_n C [(2, .int (0)), (1, .int (v8)), (0, .ref (a0))] dX12_open_36 rfl (by decide) rfl ?_
        exact zx_lv [2, 1, 0] [(0, .ref (a0)), (1, .int (v8)), (2, .int (0))] rfl (l_X12_open_37 C htab hin  _ _ _ _ _ hm)
      · replace hm := ip_e hm c17
        refine zx_bipush (v := (-4)) C dX12_open_32 (by decide) ?_
        obtain ⟨rfl, rfl⟩ := ret_e hm
        exact zx_iret C rfl rfl rfl dX12_open_34
    · replace hm := in_e hm c11
      refine zx_iload_n C dX12_open_20 0 rfl ?_
      obtain ⟨rfl, rfl⟩ := ret_e hm
      exact zx_iret C rfl rfl rfl dX12_open_21
  · refine zx_catchV (σ := sI (σ) (a0) 0 (0)) (x9 := { startPc := 5, endPc := 21, handlerPc := 73, catchType := 425 }) C (tableOf []) (tableOf [(22, 34, 73, 425), (35, 63, 73, 425), (64, 72, 73, 425)]) htab (by decide) (by decide) (by decide) (E := "SyncTreeModel$Off") W_7_174 W_9_132 [] tC_11 k1 i2 Y_X12_up W_7_179 W_7_181 Wp_57 (c_X12_up h5) (by decide) (by decide) rfl (Nat.le_of_ble_eq_true rfl) dX12_open_6 rfl (fun q35 => ?_)
    refine zx_astore_n C [(1, .ref (q35)), (0, .ref (a0))] dX12_open_73 rfl (by decide) rfl ?_
    refine zx_aload_n C dX12_open_74 1 rfl ?_
    obtain ⟨k37, i38, hm⟩ := ckO_e hm
    obtain ⟨v39, ρ40, h41, hm⟩ := cll_e hm
    refine zx_callV (σ := ρ36) C [] tC_11 k37 i38 Y_X12_off W_8_135 W_8_137 Wp_103 (c_X12_off h41) (by decide) (by decide) rfl (Nat.le_of_ble_eq_true rfl) dX12_open_75 rfl ?_
    obtain ⟨rfl, rfl⟩ := ret_e hm
    exact zx_iret C rfl rfl rfl dX12_open_78
abbrev cX12_byteAt : ByteArray := prog_13_method_92_code
def yX12_byteAt : MethodName := ⟨"SyncTreeModel", "byteAt", "(II)I"⟩
theorem Y_X12_byteAt : tYH yX12_byteAt cX12_byteAt 4 (some .int) [(5, 38, 51, 425), (39, 50, 51, 425)] 2 := ⟨W_9_5, W_1_14, ⟨by decide +kernel, by decide +kernel⟩, by decide +kernel⟩
theorem dX12_byteAt_0 : decode cX12_byteAt 0 = .ok (.aload_n 0, 1) := by decide +kernel
theorem dX12_byteAt_1 : decode cX12_byteAt 1 = .ok (.iconst 0, 1) := by decide +kernel
theorem dX12_byteAt_2 : decode cX12_byteAt 2 = .ok (.putfield 3, 3) := by decide +kernel
theorem dX12_byteAt_5 : decode cX12_byteAt 5 = .ok (.aload_n 0, 1) := by decide +kernel
theorem dX12_byteAt_6 : decode cX12_byteAt 6 = .ok (.invokevirtual 403, 3) := by decide +kernel
theorem dX12_byteAt_9 : decode cX12_byteAt 9 = .ok (.aload_n 0, 1) := by decide +kernel
theorem dX12_byteAt_10 : decode cX12_byteAt 10 = .ok (.iload_n 1, 1) := by decide +kernel
theorem dX12_byteAt_11 : decode cX12_byteAt 11 = .ok (.invokevirtual 446, 3) := by decide +kernel
theorem dX12_byteAt_14 : decode cX12_byteAt 14 = .ok (.ifCond .eq 22, 3) := by decide +kernel
theorem dX12_byteAt_17 : decode cX12_byteAt 17 = .ok (.iload_n 2, 1) := by decide +kernel
theorem dX12_byteAt_18 : decode cX12_byteAt 18 = .ok (.ifCond .lt 18, 3) := by decide +kernel
theorem dX12_byteAt_21 : decode cX12_byteAt 21 = .ok (.iload_n 2, 1) := by decide +kernel
theorem dX12_byteAt_22 : decode cX12_byteAt 22 = .ok (.aload_n 0, 1) := by decide +kernel
theorem dX12_byteAt_23 : decode cX12_byteAt 23 = .ok (.aload_n 0, 1) := by decide +kernel
theorem dX12_byteAt_24 : decode cX12_byteAt 24 = .ok (.getfield 286, 3) := by decide +kernel
theorem dX12_byteAt_27 : decode cX12_byteAt 27 = .ok (.iload_n 1, 1) := by decide +kernel
theorem dX12_byteAt_28 : decode cX12_byteAt 28 = .ok (.iaload, 1) := by decide +kernel
theorem dX12_byteAt_29 : decode cX12_byteAt 29 = .ok (.iconst 1, 1) := by decide +kernel
theorem dX12_byteAt_30 : decode cX12_byteAt 30 = .ok (.invokevirtual 247, 3) := by decide +kernel
theorem dX12_byteAt_33 : decode cX12_byteAt 33 = .ok (.if_icmp .lt 6, 3) := by decide +kernel
theorem dX12_byteAt_36 : decode cX12_byteAt 36 = .ok (.bipush (-9), 2) := by decide +kernel
theorem dX12_byteAt_38 : decode cX12_byteAt 38 = .ok (.ireturn, 1) := by decide +kernel
theorem dX12_byteAt_39 : decode cX12_byteAt 39 = .ok (.aload_n 0, 1) := by decide +kernel
theorem dX12_byteAt_40 : decode cX12_byteAt 40 = .ok (.aload_n 0, 1) := by decide +kernel
theorem dX12_byteAt_41 : decode cX12_byteAt 41 = .ok (.getfield 286, 3) := by decide +kernel
theorem dX12_byteAt_44 : decode cX12_byteAt 44 = .ok (.iload_n 1, 1) := by decide +kernel
theorem dX12_byteAt_45 : decode cX12_byteAt 45 = .ok (.iaload, 1) := by decide +kernel
theorem dX12_byteAt_46 : decode cX12_byteAt 46 = .ok (.iload_n 2, 1) := by decide +kernel
theorem dX12_byteAt_47 : decode cX12_byteAt 47 = .ok (.invokevirtual 455, 3) := by decide +kernel
theorem dX12_byteAt_50 : decode cX12_byteAt 50 = .ok (.ireturn, 1) := by decide +kernel
theorem dX12_byteAt_51 : decode cX12_byteAt 51 = .ok (.astore_n 3, 1) := by decide +kernel
theorem dX12_byteAt_52 : decode cX12_byteAt 52 = .ok (.aload_n 0, 1) := by decide +kernel
theorem dX12_byteAt_53 : decode cX12_byteAt 53 = .ok (.invokevirtual 427, 3) := by decide +kernel
theorem dX12_byteAt_56 : decode cX12_byteAt 56 = .ok (.ireturn, 1) := by decide +kernel
set_option maxRecDepth 100000 in
set_option maxHeartbeats 1000000 in
theorem j_X12_byteAt_36 {p : Program} {l : Launch} {e : Env} {s : State} {m : MethodId} {args : Array Value} {below : List Frame} {meth : Method} {c : Code} {D : va_G} {aC : Nat → ClassId} {b0 fu : Nat} {σ0 τ : tM} {v : Int32}  (C : tCx p l s m args meth c yX12_byteAt.cls cX12_byteAt 4 (some .int) D aC b0 σ0) (htab : c.exceptionTable.toList = tableOf [(5, 38, 51, 425), (39, 50, 51, 425)]) (hin : meth.name = yX12_byteAt.name)   {σ : tM} (hm : J_X12_byteAt_36 b0 fu   σ = some (v, τ)) : tX p l e s m args below meth c 4 5 112 D aC b0 σ0 (.inl (some (.int v))) τ 36 [] [] σ := by
  unfold J_X12_byteAt_36 at hm
  refine zx_bipush (v := (-9)) C dX12_byteAt_36 (by decide) ?_
  obtain ⟨rfl, rfl⟩ := ret_e hm
  exact zx_iret C rfl rfl rfl dX12_byteAt_38
set_option maxRecDepth 100000 in
set_option maxHeartbeats 1000000 in
theorem c_X12_byteAt {l : Launch} {D : va_G} {aC : Nat → ClassId} {b0 fu : Nat} {a0 : Nat} {p0 : Int32} {p1 : Int32} {σ τ : tM} {v : Int32} (hm : m_X12_byteAt b0 fu a0 p0 p1 σ = some (v, τ)) : tMt l D aC b0 yX12_byteAt (Cond.codeWith yX12_byteAt cX12_byteAt 4 (some .int) [(5, 38, 51, 425), (39, 50, 51, 425)]) 5 112 [.ref (a0), .int (p0), .int (p1)] σ (.inl (some (.int v))) τ := by
  unfold m_X12_byteAt at hm
  obtain ⟨hg, hm⟩ := grw_e hm
  refine tMt_ofH rfl (Nat.le_of_ble_eq_true rfl) hg ?_
  intro p e s m below meth c C htab hin
  refine zx_lv [0, 1, 2] [(0, .ref (a0)), (1, .int (p0)), (2, .int (p1))] rfl ?_
  refine zx_aload_n C dX12_byteAt_0 0 rfl ?_
  refine zx_iconst (v := 0) C dX12_byteAt_1 (by decide) ?_
  obtain ⟨k1, i2, hm⟩ := ckO_e hm
  refine zx_put (j := 0) (ρ := sI (σ) (a0) 0 (0)) C tC_11 k1 i2 ⟨by decide, Or.inl W_6_220⟩ rfl rfl rfl (sI_ok (fun _ => rfl)) dX12_byteAt_2 ?_
  refine zx_aload_n C dX12_byteAt_5 0 rfl ?_
  rcases cly_e hm with ⟨v3, ρ4, h5, hm⟩ | ⟨ρ37, h5, hm⟩
  · refine zx_callV (σ := sI (σ) (a0) 0 (0)) C [] tC_11 k1 i2 Y_X12_up W_7_179 W_7_181 Wp_57 (c_X12_up h5) (by decide) (by decide) rfl (Nat.le_of_ble_eq_true rfl) dX12_byteAt_6 rfl ?_
    refine zx_aload_n C dX12_byteAt_9 0 rfl ?_
    refine zx_iload_n C dX12_byteAt_10 1 rfl ?_
    obtain ⟨k6, i7, hm⟩ := ckO_e hm
    obtain ⟨v8, ρ9, h10, hm⟩ := cll_e hm
    refine zx_callV (σ := ρ4) C [.int (p0)] tC_11 k6 i7 Y_X12_isHandle W_8_221 W_8_223 Wp_116 (c_X12_isHandle h10) (by decide) (by decide) rfl (Nat.le_of_ble_eq_true rfl) dX12_byteAt_11 rfl ?_
    refine zx_if_eq C 36 dX12_byteAt_14 (by decide) (fun c11 => ?_) (fun c11 => ?_)
    · replace hm := ip_e hm c11
      exact zx_lv [] [] rfl (j_X12_byteAt_36 C htab hin    hm)
    · replace hm := in_e hm c11
      refine zx_iload_n C dX12_byteAt_17 2 rfl ?_
      refine zx_if_lt C 36 dX12_byteAt_18 (by decide) (fun c12 => ?_) (fun c12 => ?_)
      · replace hm := ip_e hm c12
        exact zx_lv [] [] rfl (j_X12_byteAt_36 C htab hin    hm)
      · replace hm := in_e hm c12
        refine zx_iload_n C dX12_byteAt_21 2 rfl ?_
        refine zx_aload_n C dX12_byteAt_22 0 rfl ?_
        refine zx_aload_n C dX12_byteAt_23 0 rfl ?_
        obtain ⟨k13, i14, hm⟩ := ckO_e hm
        obtain ⟨a15, h16, hm⟩ := osm_e hm
        refine zx_get (j := 58) C tC_11 k13 i14 ⟨by decide, Or.inl W_7_37⟩ dX12_byteAt_24 (.ref a15) (rf_s h16) ?_
        refine zx_iload_n C dX12_byteAt_27 1 rfl ?_
        obtain ⟨n19, k17, i18, hm⟩ := ckR_e hm
        obtain ⟨h20, hm⟩ := ckI_e hm
        refine zx_iald C k17 i18 h20 dX12_byteAt_28 ?_
        refine zx_iconst (v := 1) C dX12_byteAt_29 (by decide) ?_
        obtain ⟨v21, ρ22, h23, hm⟩ := cll_e hm
        refine zx_callV (σ := ρ9) C [.int (tI (ρ9) (a15) ((p0).toNatClampNeg)), .int (1)] tC_11 k13 i14 Y_X12_node W_8_40 W_8_42 Wp_80 (c_X12_node h23) (by decide) (by decide) rfl (Nat.le_of_ble_eq_true rfl) dX12_byteAt_30 rfl ?_
        refine zx_icmp_lt C 39 dX12_byteAt_33 (by decide) (fun c24 => ?_) (fun c24 => ?_)
        · replace hm := ip_e hm c24
          refine zx_aload_n C dX12_byteAt_39 0 rfl ?_
          refine zx_aload_n C dX12_byteAt_40 0 rfl ?_
          obtain ⟨k25, i26, hm⟩ := ckO_e hm
          obtain ⟨a27, h28, hm⟩ := osm_e hm
          refine zx_get (j := 58) C tC_11 k25 i26 ⟨by decide, Or.inl W_7_37⟩ dX12_byteAt_41 (.ref a27) (rf_s h28) ?_
          refine zx_iload_n C dX12_byteAt_44 1 rfl ?_
          obtain ⟨n31, k29, i30, hm⟩ := ckR_e hm
          obtain ⟨h32, hm⟩ := ckI_e hm
          refine zx_iald C k29 i30 h32 dX12_byteAt_45 ?_
          refine zx_iload_n C dX12_byteAt_46 2 rfl ?_
          obtain ⟨v33, ρ34, h35, hm⟩ := cll_e hm
          refine zx_callV (σ := ρ22) C [.int (tI (ρ22) (a27) ((p0).toNatClampNeg)), .int (p1)] tC_11 k25 i26 Y_X12_byteOf W_9_6 W_9_8 Wp_118 (c_X12_byteOf h35) (by decide) (by decide) rfl (Nat.le_of_ble_eq_true rfl) dX12_byteAt_47 rfl ?_
          obtain ⟨rfl, rfl⟩ := ret_e hm
          exact zx_iret C rfl rfl rfl dX12_byteAt_50
        · replace hm := in_e hm c24
          exact zx_lv [] [] rfl (j_X12_byteAt_36 C htab hin    hm)
  · refine zx_catchV (σ := sI (σ) (a0) 0 (0)) (x9 := { startPc := 5, endPc := 38, handlerPc := 51, catchType := 425 }) C (tableOf []) (tableOf [(39, 50, 51, 425)]) htab (by decide) (by decide) (by decide) (E := "SyncTreeModel$Off") W_7_174 W_9_132 [] tC_11 k1 i2 Y_X12_up W_7_179 W_7_181 Wp_57 (c_X12_up h5) (by decide) (by decide) rfl (Nat.le_of_ble_eq_true rfl) dX12_byteAt_6 rfl (fun q36 => ?_)
    refine zx_astore_n C [(3, .ref (q36)), (0, .ref (a0)), (1, .int (p0)), (2, .int (p1))] dX12_byteAt_51 rfl (by decide) rfl ?_
    refine zx_aload_n C dX12_byteAt_52 1 rfl ?_
    obtain ⟨k38, i39, hm⟩ := ckO_e hm
    obtain ⟨v40, ρ41, h42, hm⟩ := cll_e hm
    refine zx_callV (σ := ρ37) C [] tC_11 k38 i39 Y_X12_off W_8_135 W_8_137 Wp_103 (c_X12_off h42) (by decide) (by decide) rfl (Nat.le_of_ble_eq_true rfl) dX12_byteAt_53 rfl ?_
    obtain ⟨rfl, rfl⟩ := ret_e hm
    exact zx_iret C rfl rfl rfl dX12_byteAt_56
abbrev cX12_sum : ByteArray := prog_13_method_93_code
def yX12_sum : MethodName := ⟨"SyncTreeModel", "sum", "(III)J"⟩
theorem Y_X12_sum : tYH yX12_sum cX12_sum 8 (some .long) [(5, 35, 124, 425), (36, 123, 124, 425)] 3 := ⟨W_9_13, W_1_14, ⟨by decide +kernel, by decide +kernel⟩, by decide +kernel⟩
theorem dX12_sum_0 : decode cX12_sum 0 = .ok (.aload_n 0, 1) := by decide +kernel
theorem dX12_sum_1 : decode cX12_sum 1 = .ok (.iconst 0, 1) := by decide +kernel
theorem dX12_sum_2 : decode cX12_sum 2 = .ok (.putfield 3, 3) := by decide +kernel
theorem dX12_sum_5 : decode cX12_sum 5 = .ok (.aload_n 0, 1) := by decide +kernel
theorem dX12_sum_6 : decode cX12_sum 6 = .ok (.invokevirtual 403, 3) := by decide +kernel
theorem dX12_sum_9 : decode cX12_sum 9 = .ok (.aload_n 0, 1) := by decide +kernel
theorem dX12_sum_10 : decode cX12_sum 10 = .ok (.iload_n 1, 1) := by decide +kernel
theorem dX12_sum_11 : decode cX12_sum 11 = .ok (.invokevirtual 446, 3) := by decide +kernel
theorem dX12_sum_14 : decode cX12_sum 14 = .ok (.ifCond .eq 18, 3) := by decide +kernel
theorem dX12_sum_17 : decode cX12_sum 17 = .ok (.iload_n 2, 1) := by decide +kernel
theorem dX12_sum_18 : decode cX12_sum 18 = .ok (.ifCond .lt 14, 3) := by decide +kernel
theorem dX12_sum_21 : decode cX12_sum 21 = .ok (.iload_n 3, 1) := by decide +kernel
theorem dX12_sum_22 : decode cX12_sum 22 = .ok (.ifCond .lt 10, 3) := by decide +kernel
theorem dX12_sum_25 : decode cX12_sum 25 = .ok (.iload_n 3, 1) := by decide +kernel
theorem dX12_sum_26 : decode cX12_sum 26 = .ok (.sipush 16384, 3) := by decide +kernel
theorem dX12_sum_29 : decode cX12_sum 29 = .ok (.if_icmp .le 7, 3) := by decide +kernel
theorem dX12_sum_32 : decode cX12_sum 32 = .ok (.ldc2_w 458, 3) := by decide +kernel
theorem dX12_sum_35 : decode cX12_sum 35 = .ok (.lreturn, 1) := by decide +kernel
theorem dX12_sum_36 : decode cX12_sum 36 = .ok (.iconst 0, 1) := by decide +kernel
theorem dX12_sum_37 : decode cX12_sum 37 = .ok (.istore 4, 2) := by decide +kernel
theorem dX12_sum_39 : decode cX12_sum 39 = .ok (.lconst 0, 1) := by decide +kernel
theorem dX12_sum_40 : decode cX12_sum 40 = .ok (.lstore 5, 2) := by decide +kernel
theorem dX12_sum_42 : decode cX12_sum 42 = .ok (.iconst 0, 1) := by decide +kernel
theorem dX12_sum_43 : decode cX12_sum 43 = .ok (.istore 7, 2) := by decide +kernel
theorem dX12_sum_45 : decode cX12_sum 45 = .ok (.iload 7, 2) := by decide +kernel
theorem dX12_sum_47 : decode cX12_sum 47 = .ok (.iload_n 3, 1) := by decide +kernel
theorem dX12_sum_48 : decode cX12_sum 48 = .ok (.if_icmp .ge 62, 3) := by decide +kernel
theorem dX12_sum_51 : decode cX12_sum 51 = .ok (.iload_n 2, 1) := by decide +kernel
theorem dX12_sum_52 : decode cX12_sum 52 = .ok (.iload 7, 2) := by decide +kernel
theorem dX12_sum_54 : decode cX12_sum 54 = .ok (.iadd, 1) := by decide +kernel
theorem dX12_sum_55 : decode cX12_sum 55 = .ok (.aload_n 0, 1) := by decide +kernel
theorem dX12_sum_56 : decode cX12_sum 56 = .ok (.aload_n 0, 1) := by decide +kernel
theorem dX12_sum_57 : decode cX12_sum 57 = .ok (.getfield 286, 3) := by decide +kernel
theorem dX12_sum_60 : decode cX12_sum 60 = .ok (.iload_n 1, 1) := by decide +kernel
theorem dX12_sum_61 : decode cX12_sum 61 = .ok (.iaload, 1) := by decide +kernel
theorem dX12_sum_62 : decode cX12_sum 62 = .ok (.iconst 1, 1) := by decide +kernel
theorem dX12_sum_63 : decode cX12_sum 63 = .ok (.invokevirtual 247, 3) := by decide +kernel
theorem dX12_sum_66 : decode cX12_sum 66 = .ok (.if_icmp .ge 44, 3) := by decide +kernel
theorem dX12_sum_69 : decode cX12_sum 69 = .ok (.iload_n 2, 1) := by decide +kernel
theorem dX12_sum_70 : decode cX12_sum 70 = .ok (.iload 7, 2) := by decide +kernel
theorem dX12_sum_72 : decode cX12_sum 72 = .ok (.iadd, 1) := by decide +kernel
theorem dX12_sum_73 : decode cX12_sum 73 = .ok (.ifCond .lt 37, 3) := by decide +kernel
theorem dX12_sum_76 : decode cX12_sum 76 = .ok (.bipush 31, 2) := by decide +kernel
theorem dX12_sum_78 : decode cX12_sum 78 = .ok (.iload 4, 2) := by decide +kernel
theorem dX12_sum_80 : decode cX12_sum 80 = .ok (.imul, 1) := by decide +kernel
theorem dX12_sum_81 : decode cX12_sum 81 = .ok (.aload_n 0, 1) := by decide +kernel
theorem dX12_sum_82 : decode cX12_sum 82 = .ok (.aload_n 0, 1) := by decide +kernel
theorem dX12_sum_83 : decode cX12_sum 83 = .ok (.getfield 286, 3) := by decide +kernel
theorem dX12_sum_86 : decode cX12_sum 86 = .ok (.iload_n 1, 1) := by decide +kernel
theorem dX12_sum_87 : decode cX12_sum 87 = .ok (.iaload, 1) := by decide +kernel
theorem dX12_sum_88 : decode cX12_sum 88 = .ok (.iload_n 2, 1) := by decide +kernel
theorem dX12_sum_89 : decode cX12_sum 89 = .ok (.iload 7, 2) := by decide +kernel
theorem dX12_sum_91 : decode cX12_sum 91 = .ok (.iadd, 1) := by decide +kernel
theorem dX12_sum_92 : decode cX12_sum 92 = .ok (.invokevirtual 455, 3) := by decide +kernel
theorem dX12_sum_95 : decode cX12_sum 95 = .ok (.iadd, 1) := by decide +kernel
theorem dX12_sum_96 : decode cX12_sum 96 = .ok (.istore 4, 2) := by decide +kernel
theorem dX12_sum_98 : decode cX12_sum 98 = .ok (.lload 5, 2) := by decide +kernel
theorem dX12_sum_100 : decode cX12_sum 100 = .ok (.lconst 1, 1) := by decide +kernel
theorem dX12_sum_101 : decode cX12_sum 101 = .ok (.ladd, 1) := by decide +kernel
theorem dX12_sum_102 : decode cX12_sum 102 = .ok (.lstore 5, 2) := by decide +kernel
theorem dX12_sum_104 : decode cX12_sum 104 = .ok (.iinc 7 1, 3) := by decide +kernel
theorem dX12_sum_107 : decode cX12_sum 107 = .ok (.goto (-62), 3) := by decide +kernel
theorem dX12_sum_110 : decode cX12_sum 110 = .ok (.lload 5, 2) := by decide +kernel
theorem dX12_sum_112 : decode cX12_sum 112 = .ok (.bipush 32, 2) := by decide +kernel
theorem dX12_sum_114 : decode cX12_sum 114 = .ok (.lshl, 1) := by decide +kernel
theorem dX12_sum_115 : decode cX12_sum 115 = .ok (.iload 4, 2) := by decide +kernel
theorem dX12_sum_117 : decode cX12_sum 117 = .ok (.i2l, 1) := by decide +kernel
theorem dX12_sum_118 : decode cX12_sum 118 = .ok (.ldc2_w 460, 3) := by decide +kernel
theorem dX12_sum_121 : decode cX12_sum 121 = .ok (.land, 1) := by decide +kernel
theorem dX12_sum_122 : decode cX12_sum 122 = .ok (.ladd, 1) := by decide +kernel
theorem dX12_sum_123 : decode cX12_sum 123 = .ok (.lreturn, 1) := by decide +kernel
theorem dX12_sum_124 : decode cX12_sum 124 = .ok (.astore 4, 2) := by decide +kernel
theorem dX12_sum_126 : decode cX12_sum 126 = .ok (.aload_n 0, 1) := by decide +kernel
theorem dX12_sum_127 : decode cX12_sum 127 = .ok (.invokevirtual 427, 3) := by decide +kernel
theorem dX12_sum_130 : decode cX12_sum 130 = .ok (.i2l, 1) := by decide +kernel
theorem dX12_sum_131 : decode cX12_sum 131 = .ok (.lreturn, 1) := by decide +kernel
set_option maxRecDepth 100000 in
set_option maxHeartbeats 1000000 in
theorem j_X12_sum_32 {p : Program} {l : Launch} {e : Env} {s : State} {m : MethodId} {args : Array Value} {below : List Frame} {meth : Method} {c : Code} {D : va_G} {aC : Nat → ClassId} {b0 fu : Nat} {σ0 τ : tM} {v : Int64}  (C : tCx p l s m args meth c yX12_sum.cls cX12_sum 8 (some .long) D aC b0 σ0) (htab : c.exceptionTable.toList = tableOf [(5, 35, 124, 425), (36, 123, 124, 425)]) (hin : meth.name = yX12_sum.name)   {σ : tM} (hm : J_X12_sum_32 b0 fu   σ = some (v, τ)) : tX p l e s m args below meth c 8 5 112 D aC b0 σ0 (.inl (some (.long v))) τ 32 [] [] σ := by
  unfold J_X12_sum_32 at hm
  refine zx_ldc2 (v := (-9)) C W_9_14 dX12_sum_32 ?_
  obtain ⟨rfl, rfl⟩ := ret_e hm
  exact zx_lret C rfl rfl rfl dX12_sum_35
set_option maxRecDepth 100000 in
set_option maxHeartbeats 1000000 in
theorem j_X12_sum_110 {p : Program} {l : Launch} {e : Env} {s : State} {m : MethodId} {args : Array Value} {below : List Frame} {meth : Method} {c : Code} {D : va_G} {aC : Nat → ClassId} {b0 fu : Nat} {σ0 τ : tM} {v : Int64}  (C : tCx p l s m args meth c yX12_sum.cls cX12_sum 8 (some .long) D aC b0 σ0) (htab : c.exceptionTable.toList = tableOf [(5, 35, 124, 425), (36, 123, 124, 425)]) (hin : meth.name = yX12_sum.name)  {x4 : Int32} {x5 : Int64} {σ : tM} (hm : J_X12_sum_110 b0 fu  x4 x5 σ = some (v, τ)) : tX p l e s m args below meth c 8 5 112 D aC b0 σ0 (.inl (some (.long v))) τ 110 [(4, .int (x4)), (5, .long (x5))] [] σ := by
  unfold J_X12_sum_110 at hm
  refine zx_lload C dX12_sum_110 1 rfl ?_
  refine zx_bipush (v := 32) C dX12_sum_112 (by decide) ?_
  refine zx_lshl C dX12_sum_114 ?_
  refine zx_iload C dX12_sum_115 0 rfl ?_
  refine zx_i2l C dX12_sum_117 ?_
  refine zx_ldc2 (v := 4294967295) C W_9_15 dX12_sum_118 ?_
  refine zx_land C dX12_sum_121 ?_
  refine zx_ladd C dX12_sum_122 ?_
  obtain ⟨rfl, rfl⟩ := ret_e hm
  exact zx_lret C rfl rfl rfl dX12_sum_123
set_option maxRecDepth 100000 in
set_option maxHeartbeats 1000000 in
theorem l_X12_sum_45 {p : Program} {l : Launch} {e : Env} {s : State} {m : MethodId} {args : Array Value} {below : List Frame} {meth : Method} {c : Code} {D : va_G} {aC : Nat → ClassId} {b0 fu : Nat} {σ0 τ : tM} {v : Int64}  (C : tCx p l s m args meth c yX12_sum.cls cX12_sum 8 (some .long) D aC b0 σ0) (htab : c.exceptionTable.toList = tableOf [(5, 35, 124, 425), (36, 123, 124, 425)]) (hin : meth.name = yX12_sum.name)  : ∀ (n : Nat) (x0 : Nat) (x1 : Int32) (x2 : Int32) (x3 : Int32) (x4 : Int32) (x5 : Int64) (x7 : Int32) (σ : tM), L_X12_sum_45 b0 fu  n x0 x1 x2 x3 x4 x5 x7 σ = some (v, τ) → tX p l e s m args below meth c 8 5 112 D aC b0 σ0 (.inl (some (.long v))) τ 45 [(0, .ref (x0)), (1, .int (x1)), (2, .int (x2)), (3, .int (x3)), (4, .int (x4)), (5, .long (x5)), (7, .int (x7))] [] σ := by
  intro n
  induction n with
  | zero => intro x0 x1 x2 x3 x4 x5 x7 σ hm; unfold L_X12_sum_45 at hm; cases hm
  | succ n ih =>
    intro x0 x1 x2 x3 x4 x5 x7 σ hm
    unfold L_X12_sum_45 at hm
    obtain ⟨rc45, hrc⟩ : ∃ z, z = L_X12_sum_45 b0 fu  n := ⟨_, rfl⟩
    replace hm := ltb_e hm hrc
    rw [← hrc] at ih
    have hrc45 := ih
    clear ih hrc
    refine zx_iload C dX12_sum_45 6 rfl ?_
    refine zx_iload_n C dX12_sum_47 3 rfl ?_
    refine zx_icmp_ge C 110 dX12_sum_48 (by decide) (fun c15 => ?_) (fun c15 => ?_)
    · replace hm := ip_e hm c15
      exact zx_lv [4, 5] [(4, .int (x4)), (5, .long (x5))] rfl (j_X12_sum_110 C htab hin    hm)
    · replace hm := in_e hm c15
      refine zx_iload_n C dX12_sum_51 2 rfl ?_
      refine zx_iload C dX12_sum_52 6 rfl ?_
      refine zx_iadd C dX12_sum_54 ?_
      refine zx_aload_n C dX12_sum_55 0 rfl ?_
      refine zx_aload_n C dX12_sum_56 0 rfl ?_
      obtain ⟨k16, i17, hm⟩ := ckO_e hm
      obtain ⟨a18, h19, hm⟩ := osm_e hm
      refine zx_get (j := 58) C tC_11 k16 i17 ⟨by decide, Or.inl W_7_37⟩ dX12_sum_57 (.ref a18) (rf_s h19) ?_
      refine zx_iload_n C dX12_sum_60 1 rfl ?_
      obtain ⟨n22, k20, i21, hm⟩ := ckR_e hm
      obtain ⟨h23, hm⟩ := ckI_e hm
      refine zx_iald C k20 i21 h23 dX12_sum_61 ?_
      refine zx_iconst (v := 1) C dX12_sum_62 (by decide) ?_
      obtain ⟨v24, ρ25, h26, hm⟩ := cll_e hm
      refine zx_callV (σ := σ) C [.int (tI (σ) (a18) ((x1).toNatClampNeg)), .int (1)] tC_11 k16 i17 Y_X12_node W_8_40 W_8_42 Wp_80 (c_X12_node h26) (by decide) (by decide) rfl (Nat.le_of_ble_eq_true rfl) dX12_sum_63 rfl ?_
      refine zx_icmp_ge C 110 dX12_sum_66 (by decide) (fun c27 => ?_) (fun c27 => ?_)
      · replace hm := ip_e hm c27
        exact zx_lv [4, 5] [(4, .int (x4)), (5, .long (x5))] rfl (j_X12_sum_110 C htab hin    hm)
      · replace hm := in_e hm c27
        refine zx_iload_n C dX12_sum_69 2 rfl ?_
        refine zx_iload C dX12_sum_70 6 rfl ?_
        refine zx_iadd C dX12_sum_72 ?_
        refine zx_if_lt C 110 dX12_sum_73 (by decide) (fun c28 => ?_) (fun c28 => ?_)
        · replace hm := ip_e hm c28
          exact zx_lv [4, 5] [(4, .int (x4)), (5, .long (x5))] rfl (j_X12_sum_110 C htab hin    hm)
        · replace hm := in_e hm c28
          refine zx_bipush (v := 31) C dX12_sum_76 (by decide) ?_
          refine zx_iload C dX12_sum_78 4 rfl ?_
          refine zx_imul C dX12_sum_80 ?_
          refine zx_aload_n C dX12_sum_81 0 rfl ?_
          refine zx_aload_n C dX12_sum_82 0 rfl ?_
          obtain ⟨k29, i30, hm⟩ := ckO_e hm
          obtain ⟨a31, h32, hm⟩ := osm_e hm
          refine zx_get (j := 58) C tC_11 k29 i30 ⟨by decide, Or.inl W_7_37⟩ dX12_sum_83 (.ref a31) (rf_s h32) ?_
          refine zx_iload_n C dX12_sum_86 1 rfl ?_
          obtain ⟨n35, k33, i34, hm⟩ := ckR_e hm
          obtain ⟨h36, hm⟩ := ckI_e hm
          refine zx_iald C k33 i34 h36 dX12_sum_87 ?_
          refine zx_iload_n C dX12_sum_88 2 rfl ?_
          refine zx_iload C dX12_sum_89 6 rfl ?_
          refine zx_iadd C dX12_sum_91 ?_
          obtain ⟨v37, ρ38, h39, hm⟩ := cll_e hm
          refine zx_callV (σ := ρ25) C [.int (tI (ρ25) (a31) ((x1).toNatClampNeg)), .int ((x2) + (x7))] tC_11 k29 i30 Y_X12_byteOf W_9_6 W_9_8 Wp_118 (c_X12_byteOf h39) (by decide) (by decide) rfl (Nat.le_of_ble_eq_true rfl) dX12_sum_92 rfl ?_
          refine zx_iadd C dX12_sum_95 ?_
          refine zx_topi (fun y40 hy40 => ?_)
          replace hm := ltb_e hm hy40
          refine zx_istore C [(4, .int (y40)), (0, .ref (x0)), (1, .int (x1)), (2, .int (x2)), (3, .int (x3)), (5, .long (x5)), (7, .int (x7))] dX12_sum_96 (by decide) rfl ?_
          refine zx_lload C dX12_sum_98 5 rfl ?_
          refine zx_lconst (v := 1) C dX12_sum_100 (by decide) ?_
          refine zx_ladd C dX12_sum_101 ?_
          refine zx_topl (fun y41 hy41 => ?_)
          replace hm := ltb_e hm hy41
          refine zx_lstore C [(5, .long (y41)), (4, .int (y40)), (0, .ref (x0)), (1, .int (x1)), (2, .int (x2)), (3, .int (x3)), (7, .int (x7))] dX12_sum_102 (by decide) rfl ?_
          obtain ⟨y42, hy42⟩ : ∃ z : Int32, z = (x7) + Int32.ofInt 1 := ⟨_, rfl⟩
          replace hm := ltb_e hm hy42
          refine zx_iinc C [(7, .int (y42)), (5, .long (y41)), (4, .int (y40)), (0, .ref (x0)), (1, .int (x1)), (2, .int (x2)), (3, .int (x3))] dX12_sum_104 6 rfl hy42.symm (by decide) rfl ?_
          refine zx_goto C 45 dX12_sum_107 (by decide) ?_
          exact zx_lv [3, 4, 5, 6, 2, 1, 0] [(0, .ref (x0)), (1, .int (x1)), (2, .int (x2)), (3, .int (x3)), (4, .int (y40)), (5, .long (y41)), (7, .int (y42))] rfl (hrc45 _ _ _ _ _ _ _ _ hm)
set_option maxRecDepth 100000 in
set_option maxHeartbeats 1000000 in
theorem c_X12_sum {l : Launch} {D : va_G} {aC : Nat → ClassId} {b0 fu : Nat} {a0 : Nat} {p0 : Int32} {p1 : Int32} {p2 : Int32} {σ τ : tM} {v : Int64} (hm : m_X12_sum b0 fu a0 p0 p1 p2 σ = some (v, τ)) : tMt l D aC b0 yX12_sum (Cond.codeWith yX12_sum cX12_sum 8 (some .long) [(5, 35, 124, 425), (36, 123, 124, 425)]) 5 112 [.ref (a0), .int (p0), .int (p1), .int (p2)] σ (.inl (some (.long v))) τ := by
  unfold m_X12_sum at hm
  obtain ⟨hg, hm⟩ := grw_e hm
  refine tMt_ofH rfl (Nat.le_of_ble_eq_true rfl) hg ?_
  intro p e s m below meth c C htab hin
  refine zx_lv [0, 1, 2, 3] [(0, .ref (a0)), (1, .int (p0)), (2, .int (p1)), (3, .int (p2))] rfl ?_
  refine zx_aload_n C dX12_sum_0 0 rfl ?_
  refine zx_iconst (v := 0) C dX12_sum_1 (by decide) ?_
  obtain ⟨k1, i2, hm⟩ := ckO_e hm
  refine zx_put (j := 0) (ρ := sI (σ) (a0) 0 (0)) C tC_11 k1 i2 ⟨by decide, Or.inl W_6_220⟩ rfl rfl rfl (sI_ok (fun _ => rfl)) dX12_sum_2 ?_
  refine zx_aload_n C dX12_sum_5 0 rfl ?_
  rcases cly_e hm with ⟨v3, ρ4, h5, hm⟩ | ⟨ρ44, h5, hm⟩
  · refine zx_callV (σ := sI (σ) (a0) 0 (0)) C [] tC_11 k1 i2 Y_X12_up W_7_179 W_7_181 Wp_57 (c_X12_up h5) (by decide) (by decide) rfl (Nat.le_of_ble_eq_true rfl) dX12_sum_6 rfl ?_
    refine zx_aload_n C dX12_sum_9 0 rfl ?_
    refine zx_iload_n C dX12_sum_10 1 rfl ?_
    obtain ⟨k6, i7, hm⟩ := ckO_e hm
    obtain ⟨v8, ρ9, h10, hm⟩ := cll_e hm
    refine zx_callV (σ := ρ4) C [.int (p0)] tC_11 k6 i7 Y_X12_isHandle W_8_221 W_8_223 Wp_116 (c_X12_isHandle h10) (by decide) (by decide) rfl (Nat.le_of_ble_eq_true rfl) dX12_sum_11 rfl ?_
    refine zx_if_eq C 32 dX12_sum_14 (by decide) (fun c11 => ?_) (fun c11 => ?_)
    · replace hm := ip_e hm c11
      exact zx_lv [] [] rfl (j_X12_sum_32 C htab hin    hm)
    · replace hm := in_e hm c11
      refine zx_iload_n C dX12_sum_17 2 rfl ?_
      refine zx_if_lt C 32 dX12_sum_18 (by decide) (fun c12 => ?_) (fun c12 => ?_)
      · replace hm := ip_e hm c12
        exact zx_lv [] [] rfl (j_X12_sum_32 C htab hin    hm)
      · replace hm := in_e hm c12
        refine zx_iload_n C dX12_sum_21 3 rfl ?_
        refine zx_if_lt C 32 dX12_sum_22 (by decide) (fun c13 => ?_) (fun c13 => ?_)
        · replace hm := ip_e hm c13
          exact zx_lv [] [] rfl (j_X12_sum_32 C htab hin    hm)
        · replace hm := in_e hm c13
          refine zx_iload_n C dX12_sum_25 3 rfl ?_
          refine zx_sipush (v := 16384) C dX12_sum_26 (by decide) ?_
          refine zx_icmp_le C 36 dX12_sum_29 (by decide) (fun c14 => ?_) (fun c14 => ?_)
          · replace hm := ip_e hm c14
            refine zx_iconst (v := 0) C dX12_sum_36 (by decide) ?_
            refine zx_istore C [(4, .int (0)), (0, .ref (a0)), (1, .int (p0)), (2, .int (p1)), (3, .int (p2))] dX12_sum_37 (by decide) rfl ?_
            refine zx_lconst (v := 0) C dX12_sum_39 (by decide) ?_
            refine zx_lstore C [(5, .long (0)), (4, .int (0)), (0, .ref (a0)), (1, .int (p0)), (2, .int (p1)), (3, .int (p2))] dX12_sum_40 (by decide) rfl ?_
            refine zx_iconst (v := 0) C dX12_sum_42 (by decide) ?_
            refine zx_istore C [(7, .int (0)), (5, .long (0)), (4, .int (0)), (0, .ref (a0)), (1, .int (p0)), (2, .int (p1)), (3, .int (p2))] dX12_sum_43 (by decide) rfl ?_
            exact zx_lv [3, 4, 5, 6, 2, 1, 0] [(0, .ref (a0)), (1, .int (p0)), (2, .int (p1)), (3, .int (p2)), (4, .int (0)), (5, .long (0)), (7, .int (0))] rfl (l_X12_sum_45 C htab hin  _ _ _ _ _ _ _ _ _ hm)
          · replace hm := in_e hm c14
            exact zx_lv [] [] rfl (j_X12_sum_32 C htab hin    hm)
  · refine zx_catchV (σ := sI (σ) (a0) 0 (0)) (x9 := { startPc := 5, endPc := 35, handlerPc := 124, catchType := 425 }) C (tableOf []) (tableOf [(36, 123, 124, 425)]) htab (by decide) (by decide) (by decide) (E := "SyncTreeModel$Off") W_7_174 W_9_132 [] tC_11 k1 i2 Y_X12_up W_7_179 W_7_181 Wp_57 (c_X12_up h5) (by decide) (by decide) rfl (Nat.le_of_ble_eq_true rfl) dX12_sum_6 rfl (fun q43 => ?_)
    refine zx_astore C [(4, .ref (q43)), (0, .ref (a0)), (1, .int (p0)), (2, .int (p1)), (3, .int (p2))] dX12_sum_124 (by decide) rfl ?_
    refine zx_aload_n C dX12_sum_126 1 rfl ?_
    obtain ⟨k45, i46, hm⟩ := ckO_e hm
    obtain ⟨v47, ρ48, h49, hm⟩ := cll_e hm
    refine zx_callV (σ := ρ44) C [] tC_11 k45 i46 Y_X12_off W_8_135 W_8_137 Wp_103 (c_X12_off h49) (by decide) (by decide) rfl (Nat.le_of_ble_eq_true rfl) dX12_sum_127 rfl ?_
    refine zx_i2l C dX12_sum_130 ?_
    obtain ⟨rfl, rfl⟩ := ret_e hm
    exact zx_lret C rfl rfl rfl dX12_sum_131
abbrev cX12_info : ByteArray := prog_13_method_95_code
def yX12_info : MethodName := ⟨"SyncTreeModel", "info", "(IZ)I"⟩
theorem Y_X12_info : tYH yX12_info cX12_info 4 (some .int) [(5, 21, 44, 425), (22, 43, 44, 425)] 2 := ⟨W_9_19, W_1_14, ⟨by decide +kernel, by decide +kernel⟩, by decide +kernel⟩
theorem dX12_info_0 : decode cX12_info 0 = .ok (.aload_n 0, 1) := by decide +kernel
theorem dX12_info_1 : decode cX12_info 1 = .ok (.iconst 0, 1) := by decide +kernel
theorem dX12_info_2 : decode cX12_info 2 = .ok (.putfield 3, 3) := by decide +kernel
theorem dX12_info_5 : decode cX12_info 5 = .ok (.aload_n 0, 1) := by decide +kernel
theorem dX12_info_6 : decode cX12_info 6 = .ok (.invokevirtual 403, 3) := by decide +kernel
theorem dX12_info_9 : decode cX12_info 9 = .ok (.iload_n 1, 1) := by decide +kernel
theorem dX12_info_10 : decode cX12_info 10 = .ok (.ifCond .lt 9, 3) := by decide +kernel
theorem dX12_info_13 : decode cX12_info 13 = .ok (.iload_n 1, 1) := by decide +kernel
theorem dX12_info_14 : decode cX12_info 14 = .ok (.bipush 6, 2) := by decide +kernel
theorem dX12_info_16 : decode cX12_info 16 = .ok (.if_icmp .le 6, 3) := by decide +kernel
theorem dX12_info_19 : decode cX12_info 19 = .ok (.bipush (-9), 2) := by decide +kernel
theorem dX12_info_21 : decode cX12_info 21 = .ok (.ireturn, 1) := by decide +kernel
theorem dX12_info_22 : decode cX12_info 22 = .ok (.aload_n 0, 1) := by decide +kernel
theorem dX12_info_23 : decode cX12_info 23 = .ok (.iconst 0, 1) := by decide +kernel
theorem dX12_info_24 : decode cX12_info 24 = .ok (.iload_n 2, 1) := by decide +kernel
theorem dX12_info_25 : decode cX12_info 25 = .ok (.invokevirtual 430, 3) := by decide +kernel
theorem dX12_info_28 : decode cX12_info 28 = .ok (.istore_n 3, 1) := by decide +kernel
theorem dX12_info_29 : decode cX12_info 29 = .ok (.iload_n 3, 1) := by decide +kernel
theorem dX12_info_30 : decode cX12_info 30 = .ok (.ifCond .ge 7, 3) := by decide +kernel
theorem dX12_info_33 : decode cX12_info 33 = .ok (.iload_n 3, 1) := by decide +kernel
theorem dX12_info_34 : decode cX12_info 34 = .ok (.goto 9, 3) := by decide +kernel
theorem dX12_info_37 : decode cX12_info 37 = .ok (.aload_n 0, 1) := by decide +kernel
theorem dX12_info_38 : decode cX12_info 38 = .ok (.iload_n 3, 1) := by decide +kernel
theorem dX12_info_39 : decode cX12_info 39 = .ok (.iload_n 1, 1) := by decide +kernel
theorem dX12_info_40 : decode cX12_info 40 = .ok (.invokevirtual 462, 3) := by decide +kernel
theorem dX12_info_43 : decode cX12_info 43 = .ok (.ireturn, 1) := by decide +kernel
theorem dX12_info_44 : decode cX12_info 44 = .ok (.astore_n 3, 1) := by decide +kernel
theorem dX12_info_45 : decode cX12_info 45 = .ok (.aload_n 0, 1) := by decide +kernel
theorem dX12_info_46 : decode cX12_info 46 = .ok (.invokevirtual 427, 3) := by decide +kernel
theorem dX12_info_49 : decode cX12_info 49 = .ok (.ireturn, 1) := by decide +kernel
set_option maxRecDepth 100000 in
set_option maxHeartbeats 1000000 in
theorem j_X12_info_19 {p : Program} {l : Launch} {e : Env} {s : State} {m : MethodId} {args : Array Value} {below : List Frame} {meth : Method} {c : Code} {D : va_G} {aC : Nat → ClassId} {b0 fu : Nat} {σ0 τ : tM} {v : Int32}  (C : tCx p l s m args meth c yX12_info.cls cX12_info 4 (some .int) D aC b0 σ0) (htab : c.exceptionTable.toList = tableOf [(5, 21, 44, 425), (22, 43, 44, 425)]) (hin : meth.name = yX12_info.name)   {σ : tM} (hm : J_X12_info_19 b0 fu   σ = some (v, τ)) : tX p l e s m args below meth c 4 9 215 D aC b0 σ0 (.inl (some (.int v))) τ 19 [] [] σ := by
  unfold J_X12_info_19 at hm
  refine zx_bipush (v := (-9)) C dX12_info_19 (by decide) ?_
  obtain ⟨rfl, rfl⟩ := ret_e hm
  exact zx_iret C rfl rfl rfl dX12_info_21
set_option maxRecDepth 100000 in
set_option maxHeartbeats 1000000 in
theorem j_X12_info_43 {p : Program} {l : Launch} {e : Env} {s : State} {m : MethodId} {args : Array Value} {below : List Frame} {meth : Method} {c : Code} {D : va_G} {aC : Nat → ClassId} {b0 fu : Nat} {σ0 τ : tM} {v : Int32}  (C : tCx p l s m args meth c yX12_info.cls cX12_info 4 (some .int) D aC b0 σ0) (htab : c.exceptionTable.toList = tableOf [(5, 21, 44, 425), (22, 43, 44, 425)]) (hin : meth.name = yX12_info.name)  {s0 : Int32} {σ : tM} (hm : J_X12_info_43 b0 fu  s0 σ = some (v, τ)) : tX p l e s m args below meth c 4 9 215 D aC b0 σ0 (.inl (some (.int v))) τ 43 [] [.int (s0)] σ := by
  unfold J_X12_info_43 at hm
  obtain ⟨rfl, rfl⟩ := ret_e hm
  exact zx_iret C rfl rfl rfl dX12_info_43
set_option maxRecDepth 100000 in
set_option maxHeartbeats 1000000 in
theorem c_X12_info {l : Launch} {D : va_G} {aC : Nat → ClassId} {b0 fu : Nat} {a0 : Nat} {p0 : Int32} {p1 : Int32} {σ τ : tM} {v : Int32} (hm : m_X12_info b0 fu a0 p0 p1 σ = some (v, τ)) : tMt l D aC b0 yX12_info (Cond.codeWith yX12_info cX12_info 4 (some .int) [(5, 21, 44, 425), (22, 43, 44, 425)]) 9 215 [.ref (a0), .int (p0), .int (p1)] σ (.inl (some (.int v))) τ := by
  unfold m_X12_info at hm
  obtain ⟨hg, hm⟩ := grw_e hm
  refine tMt_ofH rfl (Nat.le_of_ble_eq_true rfl) hg ?_
  intro p e s m below meth c C htab hin
  refine zx_lv [0, 1, 2] [(0, .ref (a0)), (1, .int (p0)), (2, .int (p1))] rfl ?_
  refine zx_aload_n C dX12_info_0 0 rfl ?_
  refine zx_iconst (v := 0) C dX12_info_1 (by decide) ?_
  obtain ⟨k1, i2, hm⟩ := ckO_e hm
  refine zx_put (j := 0) (ρ := sI (σ) (a0) 0 (0)) C tC_11 k1 i2 ⟨by decide, Or.inl W_6_220⟩ rfl rfl rfl (sI_ok (fun _ => rfl)) dX12_info_2 ?_
  refine zx_aload_n C dX12_info_5 0 rfl ?_
  rcases cly_e hm with ⟨v3, ρ4, h5, hm⟩ | ⟨ρ20, h5, hm⟩
  · refine zx_callV (σ := sI (σ) (a0) 0 (0)) C [] tC_11 k1 i2 Y_X12_up W_7_179 W_7_181 Wp_57 (c_X12_up h5) (by decide) (by decide) rfl (Nat.le_of_ble_eq_true rfl) dX12_info_6 rfl ?_
    refine zx_iload_n C dX12_info_9 1 rfl ?_
    refine zx_if_lt C 19 dX12_info_10 (by decide) (fun c6 => ?_) (fun c6 => ?_)
    · replace hm := ip_e hm c6
      exact zx_lv [] [] rfl (j_X12_info_19 C htab hin    hm)
    · replace hm := in_e hm c6
      refine zx_iload_n C dX12_info_13 1 rfl ?_
      refine zx_bipush (v := 6) C dX12_info_14 (by decide) ?_
      refine zx_icmp_le C 22 dX12_info_16 (by decide) (fun c7 => ?_) (fun c7 => ?_)
      · replace hm := ip_e hm c7
        refine zx_aload_n C dX12_info_22 0 rfl ?_
        refine zx_iconst (v := 0) C dX12_info_23 (by decide) ?_
        refine zx_iload_n C dX12_info_24 2 rfl ?_
        obtain ⟨k8, i9, hm⟩ := ckO_e hm
        obtain ⟨v10, ρ11, h12, hm⟩ := cll_e hm
        refine zx_callV (σ := ρ4) C [.int (0), .int (p1)] tC_11 k8 i9 Y_X12_walkTo W_8_151 W_8_153 Wp_104 (c_X12_walkTo h12) (by decide) (by decide) rfl (Nat.le_of_ble_eq_true rfl) dX12_info_25 rfl ?_
        refine zx_istore_n C [(3, .int (v10)), (0, .ref (a0)), (1, .int (p0)), (2, .int (p1))] dX12_info_28 rfl (by decide) rfl ?_
        refine zx_iload_n C dX12_info_29 0 rfl ?_
        refine zx_if_ge C 37 dX12_info_30 (by decide) (fun c13 => ?_) (fun c13 => ?_)
        · replace hm := ip_e hm c13
          refine zx_aload_n C dX12_info_37 1 rfl ?_
          refine zx_iload_n C dX12_info_38 0 rfl ?_
          refine zx_iload_n C dX12_info_39 2 rfl ?_
          obtain ⟨k14, i15, hm⟩ := ckO_e hm
          obtain ⟨v16, ρ17, h18, hm⟩ := cll_e hm
          refine zx_callV (σ := ρ11) C [.int (v10), .int (p0)] tC_11 k14 i15 Y_X12_told W_9_20 W_9_22 Wp_119 (c_X12_told h18) (by decide) (by decide) rfl (Nat.le_of_ble_eq_true rfl) dX12_info_40 rfl ?_
          exact zx_lv [] [] rfl (j_X12_info_43 C htab hin    hm)
        · replace hm := in_e hm c13
          refine zx_iload_n C dX12_info_33 0 rfl ?_
          refine zx_goto C 43 dX12_info_34 (by decide) ?_
          exact zx_lv [] [] rfl (j_X12_info_43 C htab hin    hm)
      · replace hm := in_e hm c7
        exact zx_lv [] [] rfl (j_X12_info_19 C htab hin    hm)
  · refine zx_catchV (σ := sI (σ) (a0) 0 (0)) (x9 := { startPc := 5, endPc := 21, handlerPc := 44, catchType := 425 }) C (tableOf []) (tableOf [(22, 43, 44, 425)]) htab (by decide) (by decide) (by decide) (E := "SyncTreeModel$Off") W_7_174 W_9_132 [] tC_11 k1 i2 Y_X12_up W_7_179 W_7_181 Wp_57 (c_X12_up h5) (by decide) (by decide) rfl (Nat.le_of_ble_eq_true rfl) dX12_info_6 rfl (fun q19 => ?_)
    refine zx_astore_n C [(3, .ref (q19)), (0, .ref (a0)), (1, .int (p0)), (2, .int (p1))] dX12_info_44 rfl (by decide) rfl ?_
    refine zx_aload_n C dX12_info_45 1 rfl ?_
    obtain ⟨k21, i22, hm⟩ := ckO_e hm
    obtain ⟨v23, ρ24, h25, hm⟩ := cll_e hm
    refine zx_callV (σ := ρ20) C [] tC_11 k21 i22 Y_X12_off W_8_135 W_8_137 Wp_103 (c_X12_off h25) (by decide) (by decide) rfl (Nat.le_of_ble_eq_true rfl) dX12_info_46 rfl ?_
    obtain ⟨rfl, rfl⟩ := ret_e hm
    exact zx_iret C rfl rfl rfl dX12_info_49
abbrev cX12_infoOf : ByteArray := prog_13_method_96_code
def yX12_infoOf : MethodName := ⟨"SyncTreeModel", "infoOf", "(II)I"⟩
theorem Y_X12_infoOf : tYH yX12_infoOf cX12_infoOf 4 (some .int) [(5, 43, 44, 425)] 2 := ⟨W_9_27, W_1_14, ⟨by decide +kernel, by decide +kernel⟩, by decide +kernel⟩
theorem dX12_infoOf_0 : decode cX12_infoOf 0 = .ok (.aload_n 0, 1) := by decide +kernel
theorem dX12_infoOf_1 : decode cX12_infoOf 1 = .ok (.iconst 0, 1) := by decide +kernel
theorem dX12_infoOf_2 : decode cX12_infoOf 2 = .ok (.putfield 3, 3) := by decide +kernel
theorem dX12_infoOf_5 : decode cX12_infoOf 5 = .ok (.aload_n 0, 1) := by decide +kernel
theorem dX12_infoOf_6 : decode cX12_infoOf 6 = .ok (.invokevirtual 403, 3) := by decide +kernel
theorem dX12_infoOf_9 : decode cX12_infoOf 9 = .ok (.aload_n 0, 1) := by decide +kernel
theorem dX12_infoOf_10 : decode cX12_infoOf 10 = .ok (.iload_n 1, 1) := by decide +kernel
theorem dX12_infoOf_11 : decode cX12_infoOf 11 = .ok (.invokevirtual 446, 3) := by decide +kernel
theorem dX12_infoOf_14 : decode cX12_infoOf 14 = .ok (.ifCond .eq 13, 3) := by decide +kernel
theorem dX12_infoOf_17 : decode cX12_infoOf 17 = .ok (.iload_n 2, 1) := by decide +kernel
theorem dX12_infoOf_18 : decode cX12_infoOf 18 = .ok (.ifCond .lt 9, 3) := by decide +kernel
theorem dX12_infoOf_21 : decode cX12_infoOf 21 = .ok (.iload_n 2, 1) := by decide +kernel
theorem dX12_infoOf_22 : decode cX12_infoOf 22 = .ok (.bipush 6, 2) := by decide +kernel
theorem dX12_infoOf_24 : decode cX12_infoOf 24 = .ok (.if_icmp .le 8, 3) := by decide +kernel
theorem dX12_infoOf_27 : decode cX12_infoOf 27 = .ok (.bipush (-9), 2) := by decide +kernel
theorem dX12_infoOf_29 : decode cX12_infoOf 29 = .ok (.goto 14, 3) := by decide +kernel
theorem dX12_infoOf_32 : decode cX12_infoOf 32 = .ok (.aload_n 0, 1) := by decide +kernel
theorem dX12_infoOf_33 : decode cX12_infoOf 33 = .ok (.aload_n 0, 1) := by decide +kernel
theorem dX12_infoOf_34 : decode cX12_infoOf 34 = .ok (.getfield 286, 3) := by decide +kernel
theorem dX12_infoOf_37 : decode cX12_infoOf 37 = .ok (.iload_n 1, 1) := by decide +kernel
theorem dX12_infoOf_38 : decode cX12_infoOf 38 = .ok (.iaload, 1) := by decide +kernel
theorem dX12_infoOf_39 : decode cX12_infoOf 39 = .ok (.iload_n 2, 1) := by decide +kernel
theorem dX12_infoOf_40 : decode cX12_infoOf 40 = .ok (.invokevirtual 462, 3) := by decide +kernel
theorem dX12_infoOf_43 : decode cX12_infoOf 43 = .ok (.ireturn, 1) := by decide +kernel
theorem dX12_infoOf_44 : decode cX12_infoOf 44 = .ok (.astore_n 3, 1) := by decide +kernel
theorem dX12_infoOf_45 : decode cX12_infoOf 45 = .ok (.aload_n 0, 1) := by decide +kernel
theorem dX12_infoOf_46 : decode cX12_infoOf 46 = .ok (.invokevirtual 427, 3) := by decide +kernel
theorem dX12_infoOf_49 : decode cX12_infoOf 49 = .ok (.ireturn, 1) := by decide +kernel
set_option maxRecDepth 100000 in
set_option maxHeartbeats 1000000 in
theorem j_X12_infoOf_43 {p : Program} {l : Launch} {e : Env} {s : State} {m : MethodId} {args : Array Value} {below : List Frame} {meth : Method} {c : Code} {D : va_G} {aC : Nat → ClassId} {b0 fu : Nat} {σ0 τ : tM} {v : Int32}  (C : tCx p l s m args meth c yX12_infoOf.cls cX12_infoOf 4 (some .int) D aC b0 σ0) (htab : c.exceptionTable.toList = tableOf [(5, 43, 44, 425)]) (hin : meth.name = yX12_infoOf.name)  {s0 : Int32} {σ : tM} (hm : J_X12_infoOf_43 b0 fu  s0 σ = some (v, τ)) : tX p l e s m args below meth c 4 7 161 D aC b0 σ0 (.inl (some (.int v))) τ 43 [] [.int (s0)] σ := by
  unfold J_X12_infoOf_43 at hm
  obtain ⟨rfl, rfl⟩ := ret_e hm
  exact zx_iret C rfl rfl rfl dX12_infoOf_43
set_option maxRecDepth 100000 in
set_option maxHeartbeats 1000000 in
theorem j_X12_infoOf_27 {p : Program} {l : Launch} {e : Env} {s : State} {m : MethodId} {args : Array Value} {below : List Frame} {meth : Method} {c : Code} {D : va_G} {aC : Nat → ClassId} {b0 fu : Nat} {σ0 τ : tM} {v : Int32}  (C : tCx p l s m args meth c yX12_infoOf.cls cX12_infoOf 4 (some .int) D aC b0 σ0) (htab : c.exceptionTable.toList = tableOf [(5, 43, 44, 425)]) (hin : meth.name = yX12_infoOf.name)   {σ : tM} (hm : J_X12_infoOf_27 b0 fu   σ = some (v, τ)) : tX p l e s m args below meth c 4 7 161 D aC b0 σ0 (.inl (some (.int v))) τ 27 [] [] σ := by
  unfold J_X12_infoOf_27 at hm
  refine zx_bipush (v := (-9)) C dX12_infoOf_27 (by decide) ?_
  refine zx_goto C 43 dX12_infoOf_29 (by decide) ?_
  exact zx_lv [] [] rfl (j_X12_infoOf_43 C htab hin    hm)
set_option maxRecDepth 100000 in
set_option maxHeartbeats 1000000 in
theorem c_X12_infoOf {l : Launch} {D : va_G} {aC : Nat → ClassId} {b0 fu : Nat} {a0 : Nat} {p0 : Int32} {p1 : Int32} {σ τ : tM} {v : Int32} (hm : m_X12_infoOf b0 fu a0 p0 p1 σ = some (v, τ)) : tMt l D aC b0 yX12_infoOf (Cond.codeWith yX12_infoOf cX12_infoOf 4 (some .int) [(5, 43, 44, 425)]) 7 161 [.ref (a0), .int (p0), .int (p1)] σ (.inl (some (.int v))) τ := by
  unfold m_X12_infoOf at hm
  obtain ⟨hg, hm⟩ := grw_e hm
  refine tMt_ofH rfl (Nat.le_of_ble_eq_true rfl) hg ?_
  intro p e s m below meth c C htab hin
  refine zx_lv [0, 1, 2] [(0, .ref (a0)), (1, .int (p0)), (2, .int (p1))] rfl ?_
  refine zx_aload_n C dX12_infoOf_0 0 rfl ?_
  refine zx_iconst (v := 0) C dX12_infoOf_1 (by decide) ?_
  obtain ⟨k1, i2, hm⟩ := ckO_e hm
  refine zx_put (j := 0) (ρ := sI (σ) (a0) 0 (0)) C tC_11 k1 i2 ⟨by decide, Or.inl W_6_220⟩ rfl rfl rfl (sI_ok (fun _ => rfl)) dX12_infoOf_2 ?_
  refine zx_aload_n C dX12_infoOf_5 0 rfl ?_
  rcases cly_e hm with ⟨v3, ρ4, h5, hm⟩ | ⟨ρ26, h5, hm⟩
  · refine zx_callV (σ := sI (σ) (a0) 0 (0)) C [] tC_11 k1 i2 Y_X12_up W_7_179 W_7_181 Wp_57 (c_X12_up h5) (by decide) (by decide) rfl (Nat.le_of_ble_eq_true rfl) dX12_infoOf_6 rfl ?_
    refine zx_aload_n C dX12_infoOf_9 0 rfl ?_
    refine zx_iload_n C dX12_infoOf_10 1 rfl ?_
    obtain ⟨k6, i7, hm⟩ := ckO_e hm
    obtain ⟨v8, ρ9, h10, hm⟩ := cll_e hm
    refine zx_callV (σ := ρ4) C [.int (p0)] tC_11 k6 i7 Y_X12_isHandle W_8_221 W_8_223 Wp_116 (c_X12_isHandle h10) (by decide) (by decide) rfl (Nat.le_of_ble_eq_true rfl) dX12_infoOf_11 rfl ?_
    refine zx_if_eq C 27 dX12_infoOf_14 (by decide) (fun c11 => ?_) (fun c11 => ?_)
    · replace hm := ip_e hm c11
      exact zx_lv [] [] rfl (j_X12_infoOf_27 C htab hin    hm)
    · replace hm := in_e hm c11
      refine zx_iload_n C dX12_infoOf_17 2 rfl ?_
      refine zx_if_lt C 27 dX12_infoOf_18 (by decide) (fun c12 => ?_) (fun c12 => ?_)
      · replace hm := ip_e hm c12
        exact zx_lv [] [] rfl (j_X12_infoOf_27 C htab hin    hm)
      · replace hm := in_e hm c12
        refine zx_iload_n C dX12_infoOf_21 2 rfl ?_
        refine zx_bipush (v := 6) C dX12_infoOf_22 (by decide) ?_
        refine zx_icmp_le C 32 dX12_infoOf_24 (by decide) (fun c13 => ?_) (fun c13 => ?_)
        · replace hm := ip_e hm c13
          refine zx_aload_n C dX12_infoOf_32 0 rfl ?_
          refine zx_aload_n C dX12_infoOf_33 0 rfl ?_
          obtain ⟨k14, i15, hm⟩ := ckO_e hm
          obtain ⟨a16, h17, hm⟩ := osm_e hm
          refine zx_get (j := 58) C tC_11 k14 i15 ⟨by decide, Or.inl W_7_37⟩ dX12_infoOf_34 (.ref a16) (rf_s h17) ?_
          refine zx_iload_n C dX12_infoOf_37 1 rfl ?_
          obtain ⟨n20, k18, i19, hm⟩ := ckR_e hm
          obtain ⟨h21, hm⟩ := ckI_e hm
          refine zx_iald C k18 i19 h21 dX12_infoOf_38 ?_
          refine zx_iload_n C dX12_infoOf_39 2 rfl ?_
          obtain ⟨v22, ρ23, h24, hm⟩ := cll_e hm
          refine zx_callV (σ := ρ9) C [.int (tI (ρ9) (a16) ((p0).toNatClampNeg)), .int (p1)] tC_11 k14 i15 Y_X12_told W_9_20 W_9_22 Wp_119 (c_X12_told h24) (by decide) (by decide) rfl (Nat.le_of_ble_eq_true rfl) dX12_infoOf_40 rfl ?_
          exact zx_lv [] [] rfl (j_X12_infoOf_43 C htab hin    hm)
        · replace hm := in_e hm c13
          exact zx_lv [] [] rfl (j_X12_infoOf_27 C htab hin    hm)
  · refine zx_catchV (σ := sI (σ) (a0) 0 (0)) (x9 := { startPc := 5, endPc := 43, handlerPc := 44, catchType := 425 }) C (tableOf []) (tableOf []) htab (by decide) (by decide) (by decide) (E := "SyncTreeModel$Off") W_7_174 W_9_132 [] tC_11 k1 i2 Y_X12_up W_7_179 W_7_181 Wp_57 (c_X12_up h5) (by decide) (by decide) rfl (Nat.le_of_ble_eq_true rfl) dX12_infoOf_6 rfl (fun q25 => ?_)
    refine zx_astore_n C [(3, .ref (q25)), (0, .ref (a0)), (1, .int (p0)), (2, .int (p1))] dX12_infoOf_44 rfl (by decide) rfl ?_
    refine zx_aload_n C dX12_infoOf_45 1 rfl ?_
    obtain ⟨k27, i28, hm⟩ := ckO_e hm
    obtain ⟨v29, ρ30, h31, hm⟩ := cll_e hm
    refine zx_callV (σ := ρ26) C [] tC_11 k27 i28 Y_X12_off W_8_135 W_8_137 Wp_103 (c_X12_off h31) (by decide) (by decide) rfl (Nat.le_of_ble_eq_true rfl) dX12_infoOf_46 rfl ?_
    obtain ⟨rfl, rfl⟩ := ret_e hm
    exact zx_iret C rfl rfl rfl dX12_infoOf_49
abbrev cX12_entry : ByteArray := prog_13_method_97_code
def yX12_entry : MethodName := ⟨"SyncTreeModel", "entry", "(II)I"⟩
theorem Y_X12_entry : tYH yX12_entry cX12_entry 5 (some .int) [(5, 16, 115, 425), (17, 29, 115, 425), (30, 42, 115, 425), (43, 57, 115, 425), (58, 72, 115, 425), (73, 114, 115, 425)] 2 := ⟨W_9_31, W_1_14, ⟨by decide +kernel, by decide +kernel⟩, by decide +kernel⟩
theorem dX12_entry_0 : decode cX12_entry 0 = .ok (.aload_n 0, 1) := by decide +kernel
theorem dX12_entry_1 : decode cX12_entry 1 = .ok (.iconst 0, 1) := by decide +kernel
theorem dX12_entry_2 : decode cX12_entry 2 = .ok (.putfield 3, 3) := by decide +kernel
theorem dX12_entry_5 : decode cX12_entry 5 = .ok (.aload_n 0, 1) := by decide +kernel
theorem dX12_entry_6 : decode cX12_entry 6 = .ok (.invokevirtual 403, 3) := by decide +kernel
theorem dX12_entry_9 : decode cX12_entry 9 = .ok (.iload_n 2, 1) := by decide +kernel
theorem dX12_entry_10 : decode cX12_entry 10 = .ok (.iconst (-1), 1) := by decide +kernel
theorem dX12_entry_11 : decode cX12_entry 11 = .ok (.if_icmp .ge 6, 3) := by decide +kernel
theorem dX12_entry_14 : decode cX12_entry 14 = .ok (.bipush (-9), 2) := by decide +kernel
theorem dX12_entry_16 : decode cX12_entry 16 = .ok (.ireturn, 1) := by decide +kernel
theorem dX12_entry_17 : decode cX12_entry 17 = .ok (.aload_n 0, 1) := by decide +kernel
theorem dX12_entry_18 : decode cX12_entry 18 = .ok (.iconst 0, 1) := by decide +kernel
theorem dX12_entry_19 : decode cX12_entry 19 = .ok (.iconst 1, 1) := by decide +kernel
theorem dX12_entry_20 : decode cX12_entry 20 = .ok (.invokevirtual 430, 3) := by decide +kernel
theorem dX12_entry_23 : decode cX12_entry 23 = .ok (.istore_n 3, 1) := by decide +kernel
theorem dX12_entry_24 : decode cX12_entry 24 = .ok (.iload_n 3, 1) := by decide +kernel
theorem dX12_entry_25 : decode cX12_entry 25 = .ok (.ifCond .ge 5, 3) := by decide +kernel
theorem dX12_entry_28 : decode cX12_entry 28 = .ok (.iload_n 3, 1) := by decide +kernel
theorem dX12_entry_29 : decode cX12_entry 29 = .ok (.ireturn, 1) := by decide +kernel
theorem dX12_entry_30 : decode cX12_entry 30 = .ok (.aload_n 0, 1) := by decide +kernel
theorem dX12_entry_31 : decode cX12_entry 31 = .ok (.iload_n 3, 1) := by decide +kernel
theorem dX12_entry_32 : decode cX12_entry 32 = .ok (.iconst 0, 1) := by decide +kernel
theorem dX12_entry_33 : decode cX12_entry 33 = .ok (.invokevirtual 247, 3) := by decide +kernel
theorem dX12_entry_36 : decode cX12_entry 36 = .ok (.iconst 2, 1) := by decide +kernel
theorem dX12_entry_37 : decode cX12_entry 37 = .ok (.if_icmp .eq 6, 3) := by decide +kernel
theorem dX12_entry_40 : decode cX12_entry 40 = .ok (.bipush (-3), 2) := by decide +kernel
theorem dX12_entry_42 : decode cX12_entry 42 = .ok (.ireturn, 1) := by decide +kernel
theorem dX12_entry_43 : decode cX12_entry 43 = .ok (.iload_n 1, 1) := by decide +kernel
theorem dX12_entry_44 : decode cX12_entry 44 = .ok (.ifCond .lt 12, 3) := by decide +kernel
theorem dX12_entry_47 : decode cX12_entry 47 = .ok (.iload_n 1, 1) := by decide +kernel
theorem dX12_entry_48 : decode cX12_entry 48 = .ok (.aload_n 0, 1) := by decide +kernel
theorem dX12_entry_49 : decode cX12_entry 49 = .ok (.iload_n 3, 1) := by decide +kernel
theorem dX12_entry_50 : decode cX12_entry 50 = .ok (.invokevirtual 299, 3) := by decide +kernel
theorem dX12_entry_53 : decode cX12_entry 53 = .ok (.if_icmp .lt 5, 3) := by decide +kernel
theorem dX12_entry_56 : decode cX12_entry 56 = .ok (.iconst (-1), 1) := by decide +kernel
theorem dX12_entry_57 : decode cX12_entry 57 = .ok (.ireturn, 1) := by decide +kernel
theorem dX12_entry_58 : decode cX12_entry 58 = .ok (.aload_n 0, 1) := by decide +kernel
theorem dX12_entry_59 : decode cX12_entry 59 = .ok (.iload_n 3, 1) := by decide +kernel
theorem dX12_entry_60 : decode cX12_entry 60 = .ok (.iload_n 1, 1) := by decide +kernel
theorem dX12_entry_61 : decode cX12_entry 61 = .ok (.invokevirtual 302, 3) := by decide +kernel
theorem dX12_entry_64 : decode cX12_entry 64 = .ok (.istore 4, 2) := by decide +kernel
theorem dX12_entry_66 : decode cX12_entry 66 = .ok (.iload_n 2, 1) := by decide +kernel
theorem dX12_entry_67 : decode cX12_entry 67 = .ok (.ifCond .ge 6, 3) := by decide +kernel
theorem dX12_entry_70 : decode cX12_entry 70 = .ok (.iload 4, 2) := by decide +kernel
theorem dX12_entry_72 : decode cX12_entry 72 = .ok (.ireturn, 1) := by decide +kernel
theorem dX12_entry_73 : decode cX12_entry 73 = .ok (.iload 4, 2) := by decide +kernel
theorem dX12_entry_75 : decode cX12_entry 75 = .ok (.bipush 64, 2) := by decide +kernel
theorem dX12_entry_77 : decode cX12_entry 77 = .ok (.if_icmp .eq 19, 3) := by decide +kernel
theorem dX12_entry_80 : decode cX12_entry 80 = .ok (.iload_n 2, 1) := by decide +kernel
theorem dX12_entry_81 : decode cX12_entry 81 = .ok (.aload_n 0, 1) := by decide +kernel
theorem dX12_entry_82 : decode cX12_entry 82 = .ok (.getfield 13, 3) := by decide +kernel
theorem dX12_entry_85 : decode cX12_entry 85 = .ok (.aload_n 0, 1) := by decide +kernel
theorem dX12_entry_86 : decode cX12_entry 86 = .ok (.iload_n 3, 1) := by decide +kernel
theorem dX12_entry_87 : decode cX12_entry 87 = .ok (.iload_n 1, 1) := by decide +kernel
theorem dX12_entry_88 : decode cX12_entry 88 = .ok (.iconst 1, 1) := by decide +kernel
theorem dX12_entry_89 : decode cX12_entry 89 = .ok (.invokevirtual 295, 3) := by decide +kernel
theorem dX12_entry_92 : decode cX12_entry 92 = .ok (.iaload, 1) := by decide +kernel
theorem dX12_entry_93 : decode cX12_entry 93 = .ok (.if_icmp .lt 7, 3) := by decide +kernel
theorem dX12_entry_96 : decode cX12_entry 96 = .ok (.iconst (-1), 1) := by decide +kernel
theorem dX12_entry_97 : decode cX12_entry 97 = .ok (.goto 17, 3) := by decide +kernel
theorem dX12_entry_100 : decode cX12_entry 100 = .ok (.aload_n 0, 1) := by decide +kernel
theorem dX12_entry_101 : decode cX12_entry 101 = .ok (.getfield 13, 3) := by decide +kernel
theorem dX12_entry_104 : decode cX12_entry 104 = .ok (.aload_n 0, 1) := by decide +kernel
theorem dX12_entry_105 : decode cX12_entry 105 = .ok (.iload_n 3, 1) := by decide +kernel
theorem dX12_entry_106 : decode cX12_entry 106 = .ok (.iload_n 1, 1) := by decide +kernel
theorem dX12_entry_107 : decode cX12_entry 107 = .ok (.iconst 2, 1) := by decide +kernel
theorem dX12_entry_108 : decode cX12_entry 108 = .ok (.iload_n 2, 1) := by decide +kernel
theorem dX12_entry_109 : decode cX12_entry 109 = .ok (.iadd, 1) := by decide +kernel
theorem dX12_entry_110 : decode cX12_entry 110 = .ok (.invokevirtual 295, 3) := by decide +kernel
theorem dX12_entry_113 : decode cX12_entry 113 = .ok (.iaload, 1) := by decide +kernel
theorem dX12_entry_114 : decode cX12_entry 114 = .ok (.ireturn, 1) := by decide +kernel
theorem dX12_entry_115 : decode cX12_entry 115 = .ok (.astore_n 3, 1) := by decide +kernel
theorem dX12_entry_116 : decode cX12_entry 116 = .ok (.aload_n 0, 1) := by decide +kernel
theorem dX12_entry_117 : decode cX12_entry 117 = .ok (.invokevirtual 427, 3) := by decide +kernel
theorem dX12_entry_120 : decode cX12_entry 120 = .ok (.ireturn, 1) := by decide +kernel
set_option maxRecDepth 100000 in
set_option maxHeartbeats 1000000 in
theorem j_X12_entry_56 {p : Program} {l : Launch} {e : Env} {s : State} {m : MethodId} {args : Array Value} {below : List Frame} {meth : Method} {c : Code} {D : va_G} {aC : Nat → ClassId} {b0 fu : Nat} {σ0 τ : tM} {v : Int32}  (C : tCx p l s m args meth c yX12_entry.cls cX12_entry 5 (some .int) D aC b0 σ0) (htab : c.exceptionTable.toList = tableOf [(5, 16, 115, 425), (17, 29, 115, 425), (30, 42, 115, 425), (43, 57, 115, 425), (58, 72, 115, 425), (73, 114, 115, 425)]) (hin : meth.name = yX12_entry.name)   {σ : tM} (hm : J_X12_entry_56 b0 fu   σ = some (v, τ)) : tX p l e s m args below meth c 5 9 215 D aC b0 σ0 (.inl (some (.int v))) τ 56 [] [] σ := by
  unfold J_X12_entry_56 at hm
  refine zx_iconst (v := (-1)) C dX12_entry_56 (by decide) ?_
  obtain ⟨rfl, rfl⟩ := ret_e hm
  exact zx_iret C rfl rfl rfl dX12_entry_57
set_option maxRecDepth 100000 in
set_option maxHeartbeats 1000000 in
theorem j_X12_entry_114 {p : Program} {l : Launch} {e : Env} {s : State} {m : MethodId} {args : Array Value} {below : List Frame} {meth : Method} {c : Code} {D : va_G} {aC : Nat → ClassId} {b0 fu : Nat} {σ0 τ : tM} {v : Int32}  (C : tCx p l s m args meth c yX12_entry.cls cX12_entry 5 (some .int) D aC b0 σ0) (htab : c.exceptionTable.toList = tableOf [(5, 16, 115, 425), (17, 29, 115, 425), (30, 42, 115, 425), (43, 57, 115, 425), (58, 72, 115, 425), (73, 114, 115, 425)]) (hin : meth.name = yX12_entry.name)  {s0 : Int32} {σ : tM} (hm : J_X12_entry_114 b0 fu  s0 σ = some (v, τ)) : tX p l e s m args below meth c 5 9 215 D aC b0 σ0 (.inl (some (.int v))) τ 114 [] [.int (s0)] σ := by
  unfold J_X12_entry_114 at hm
  obtain ⟨rfl, rfl⟩ := ret_e hm
  exact zx_iret C rfl rfl rfl dX12_entry_114
set_option maxRecDepth 100000 in
set_option maxHeartbeats 1000000 in
theorem j_X12_entry_96 {p : Program} {l : Launch} {e : Env} {s : State} {m : MethodId} {args : Array Value} {below : List Frame} {meth : Method} {c : Code} {D : va_G} {aC : Nat → ClassId} {b0 fu : Nat} {σ0 τ : tM} {v : Int32}  (C : tCx p l s m args meth c yX12_entry.cls cX12_entry 5 (some .int) D aC b0 σ0) (htab : c.exceptionTable.toList = tableOf [(5, 16, 115, 425), (17, 29, 115, 425), (30, 42, 115, 425), (43, 57, 115, 425), (58, 72, 115, 425), (73, 114, 115, 425)]) (hin : meth.name = yX12_entry.name)   {σ : tM} (hm : J_X12_entry_96 b0 fu   σ = some (v, τ)) : tX p l e s m args below meth c 5 9 215 D aC b0 σ0 (.inl (some (.int v))) τ 96 [] [] σ := by
  unfold J_X12_entry_96 at hm
  refine zx_iconst (v := (-1)) C dX12_entry_96 (by decide) ?_
  refine zx_goto C 114 dX12_entry_97 (by decide) ?_
  exact zx_lv [] [] rfl (j_X12_entry_114 C htab hin    hm)
set_option maxRecDepth 100000 in
set_option maxHeartbeats 1000000 in
theorem c_X12_entry {l : Launch} {D : va_G} {aC : Nat → ClassId} {b0 fu : Nat} {a0 : Nat} {p0 : Int32} {p1 : Int32} {σ τ : tM} {v : Int32} (hm : m_X12_entry b0 fu a0 p0 p1 σ = some (v, τ)) : tMt l D aC b0 yX12_entry (Cond.codeWith yX12_entry cX12_entry 5 (some .int) [(5, 16, 115, 425), (17, 29, 115, 425), (30, 42, 115, 425), (43, 57, 115, 425), (58, 72, 115, 425), (73, 114, 115, 425)]) 9 215 [.ref (a0), .int (p0), .int (p1)] σ (.inl (some (.int v))) τ := by
  unfold m_X12_entry at hm
  obtain ⟨hg, hm⟩ := grw_e hm
  refine tMt_ofH rfl (Nat.le_of_ble_eq_true rfl) hg ?_
  intro p e s m below meth c C htab hin
  refine zx_lv [0, 1, 2] [(0, .ref (a0)), (1, .int (p0)), (2, .int (p1))] rfl ?_
  refine zx_aload_n C dX12_entry_0 0 rfl ?_
  refine zx_iconst (v := 0) C dX12_entry_1 (by decide) ?_
  obtain ⟨k1, i2, hm⟩ := ckO_e hm
  refine zx_put (j := 0) (ρ := sI (σ) (a0) 0 (0)) C tC_11 k1 i2 ⟨by decide, Or.inl W_6_220⟩ rfl rfl rfl (sI_ok (fun _ => rfl)) dX12_entry_2 ?_
  refine zx_aload_n C dX12_entry_5 0 rfl ?_
  rcases cly_e hm with ⟨v3, ρ4, h5, hm⟩ | ⟨ρ57, h5, hm⟩
  · refine zx_callV (σ := sI (σ) (a0) 0 (0)) C [] tC_11 k1 i2 Y_X12_up W_7_179 W_7_181 Wp_57 (c_X12_up h5) (by decide) (by decide) rfl (Nat.le_of_ble_eq_true rfl) dX12_entry_6 rfl ?_
    refine zx_iload_n C dX12_entry_9 2 rfl ?_
    refine zx_iconst (v := (-1)) C dX12_entry_10 (by decide) ?_
    refine zx_icmp_ge C 17 dX12_entry_11 (by decide) (fun c6 => ?_) (fun c6 => ?_)
    · replace hm := ip_e hm c6
      refine zx_aload_n C dX12_entry_17 0 rfl ?_
      refine zx_iconst (v := 0) C dX12_entry_18 (by decide) ?_
      refine zx_iconst (v := 1) C dX12_entry_19 (by decide) ?_
      obtain ⟨k7, i8, hm⟩ := ckO_e hm
      obtain ⟨v9, ρ10, h11, hm⟩ := cll_e hm
      refine zx_callV (σ := ρ4) C [.int (0), .int (1)] tC_11 k7 i8 Y_X12_walkTo W_8_151 W_8_153 Wp_104 (c_X12_walkTo h11) (by decide) (by decide) rfl (Nat.le_of_ble_eq_true rfl) dX12_entry_20 rfl ?_
      refine zx_istore_n C [(3, .int (v9)), (0, .ref (a0)), (1, .int (p0)), (2, .int (p1))] dX12_entry_23 rfl (by decide) rfl ?_
      refine zx_iload_n C dX12_entry_24 0 rfl ?_
      refine zx_if_ge C 30 dX12_entry_25 (by decide) (fun c12 => ?_) (fun c12 => ?_)
      · replace hm := ip_e hm c12
        refine zx_aload_n C dX12_entry_30 1 rfl ?_
        refine zx_iload_n C dX12_entry_31 0 rfl ?_
        refine zx_iconst (v := 0) C dX12_entry_32 (by decide) ?_
        obtain ⟨k13, i14, hm⟩ := ckO_e hm
        obtain ⟨v15, ρ16, h17, hm⟩ := cll_e hm
        refine zx_callV (σ := ρ10) C [.int (v9), .int (0)] tC_11 k13 i14 Y_X12_node W_8_40 W_8_42 Wp_80 (c_X12_node h17) (by decide) (by decide) rfl (Nat.le_of_ble_eq_true rfl) dX12_entry_33 rfl ?_
        refine zx_iconst (v := 2) C dX12_entry_36 (by decide) ?_
        refine zx_icmp_eq C 43 dX12_entry_37 (by decide) (fun c18 => ?_) (fun c18 => ?_)
        · replace hm := ip_e hm c18
          refine zx_iload_n C dX12_entry_43 2 rfl ?_
          refine zx_if_lt C 56 dX12_entry_44 (by decide) (fun c19 => ?_) (fun c19 => ?_)
          · replace hm := ip_e hm c19
            exact zx_lv [] [] rfl (j_X12_entry_56 C htab hin    hm)
          · replace hm := in_e hm c19
            refine zx_iload_n C dX12_entry_47 2 rfl ?_
            refine zx_aload_n C dX12_entry_48 1 rfl ?_
            refine zx_iload_n C dX12_entry_49 0 rfl ?_
            obtain ⟨k20, i21, hm⟩ := ckO_e hm
            obtain ⟨v22, ρ23, h24, hm⟩ := cll_e hm
            refine zx_callV (σ := ρ16) C [.int (v9)] tC_11 k20 i21 Y_X12_entries W_8_48 W_8_50 Wp_82 (c_X12_entries h24) (by decide) (by decide) rfl (Nat.le_of_ble_eq_true rfl) dX12_entry_50 rfl ?_
            refine zx_icmp_lt C 58 dX12_entry_53 (by decide) (fun c25 => ?_) (fun c25 => ?_)
            · replace hm := ip_e hm c25
              refine zx_aload_n C dX12_entry_58 1 rfl ?_
              refine zx_iload_n C dX12_entry_59 0 rfl ?_
              refine zx_iload_n C dX12_entry_60 2 rfl ?_
              obtain ⟨k26, i27, hm⟩ := ckO_e hm
              obtain ⟨v28, ρ29, h30, hm⟩ := cll_e hm
              refine zx_callV (σ := ρ23) C [.int (v9), .int (p0)] tC_11 k26 i27 Y_X12_entryNode W_8_52 W_8_54 Wp_83 (c_X12_entryNode h30) (by decide) (by decide) rfl (Nat.le_of_ble_eq_true rfl) dX12_entry_61 rfl ?_
              refine zx_istore C [(4, .int (v28)), (3, .int (v9)), (0, .ref (a0)), (1, .int (p0)), (2, .int (p1))] dX12_entry_64 (by decide) rfl ?_
              refine zx_iload_n C dX12_entry_66 4 rfl ?_
              refine zx_if_ge C 73 dX12_entry_67 (by decide) (fun c31 => ?_) (fun c31 => ?_)
              · replace hm := ip_e hm c31
                refine zx_iload C dX12_entry_73 0 rfl ?_
                refine zx_bipush (v := 64) C dX12_entry_75 (by decide) ?_
                refine zx_icmp_eq C 96 dX12_entry_77 (by decide) (fun c32 => ?_) (fun c32 => ?_)
                · replace hm := ip_e hm c32
                  exact zx_lv [] [] rfl (j_X12_entry_96 C htab hin    hm)
                · replace hm := in_e hm c32
                  refine zx_iload_n C dX12_entry_80 4 rfl ?_
                  refine zx_aload_n C dX12_entry_81 2 rfl ?_
                  obtain ⟨k33, i34, hm⟩ := ckO_e hm
                  obtain ⟨a35, h36, hm⟩ := osm_e hm
                  refine zx_get (j := 1) C tC_11 k33 i34 ⟨by decide, Or.inl W_6_221⟩ dX12_entry_82 (.ref a35) (rf_s h36) ?_
                  refine zx_aload_n C dX12_entry_85 2 rfl ?_
                  refine zx_iload_n C dX12_entry_86 1 rfl ?_
                  refine zx_iload_n C dX12_entry_87 3 rfl ?_
                  refine zx_iconst (v := 1) C dX12_entry_88 (by decide) ?_
                  obtain ⟨v37, ρ38, h39, hm⟩ := cll_e hm
                  refine zx_callV (σ := ρ29) C [.int (v9), .int (p0), .int (1)] tC_11 k33 i34 Y_X12_entryAt W_8_56 W_8_58 Wp_84 (c_X12_entryAt h39) (by decide) (by decide) rfl (Nat.le_of_ble_eq_true rfl) dX12_entry_89 rfl ?_
                  obtain ⟨n42, k40, i41, hm⟩ := ckR_e hm
                  obtain ⟨h43, hm⟩ := ckI_e hm
                  refine zx_iald C k40 i41 h43 dX12_entry_92 ?_
                  refine zx_icmp_lt C 100 dX12_entry_93 (by decide) (fun c44 => ?_) (fun c44 => ?_)
                  · replace hm := ip_e hm c44
                    refine zx_aload_n C dX12_entry_100 2 rfl ?_
                    obtain ⟨k45, i46, hm⟩ := ckO_e hm
                    obtain ⟨a47, h48, hm⟩ := osm_e hm
                    refine zx_get (j := 1) C tC_11 k45 i46 ⟨by decide, Or.inl W_6_221⟩ dX12_entry_101 (.ref a47) (rf_s h48) ?_
                    refine zx_aload_n C dX12_entry_104 2 rfl ?_
                    refine zx_iload_n C dX12_entry_105 1 rfl ?_
                    refine zx_iload_n C dX12_entry_106 3 rfl ?_
                    refine zx_iconst (v := 2) C dX12_entry_107 (by decide) ?_
                    refine zx_iload_n C dX12_entry_108 4 rfl ?_
                    refine zx_iadd C dX12_entry_109 ?_
                    obtain ⟨v49, ρ50, h51, hm⟩ := cll_e hm
                    refine zx_callV (σ := ρ38) C [.int (v9), .int (p0), .int ((2) + (p1))] tC_11 k45 i46 Y_X12_entryAt W_8_56 W_8_58 Wp_84 (c_X12_entryAt h51) (by decide) (by decide) rfl (Nat.le_of_ble_eq_true rfl) dX12_entry_110 rfl ?_
                    obtain ⟨n54, k52, i53, hm⟩ := ckR_e hm
                    obtain ⟨h55, hm⟩ := ckI_e hm
                    refine zx_iald C k52 i53 h55 dX12_entry_113 ?_
                    exact zx_lv [] [] rfl (j_X12_entry_114 C htab hin    hm)
                  · replace hm := in_e hm c44
                    exact zx_lv [] [] rfl (j_X12_entry_96 C htab hin    hm)
              · replace hm := in_e hm c31
                refine zx_iload C dX12_entry_70 0 rfl ?_
                obtain ⟨rfl, rfl⟩ := ret_e hm
                exact zx_iret C rfl rfl rfl dX12_entry_72
            · replace hm := in_e hm c25
              exact zx_lv [] [] rfl (j_X12_entry_56 C htab hin    hm)
        · replace hm := in_e hm c18
          refine zx_bipush (v := (-3)) C dX12_entry_40 (by decide) ?_
          obtain ⟨rfl, rfl⟩ := ret_e hm
          exact zx_iret C rfl rfl rfl dX12_entry_42
      · replace hm := in_e hm c12
        refine zx_iload_n C dX12_entry_28 0 rfl ?_
        obtain ⟨rfl, rfl⟩ := ret_e hm
        exact zx_iret C rfl rfl rfl dX12_entry_29
    · replace hm := in_e hm c6
      refine zx_bipush (v := (-9)) C dX12_entry_14 (by decide) ?_
      obtain ⟨rfl, rfl⟩ := ret_e hm
      exact zx_iret C rfl rfl rfl dX12_entry_16
  · refine zx_catchV (σ := sI (σ) (a0) 0 (0)) (x9 := { startPc := 5, endPc := 16, handlerPc := 115, catchType := 425 }) C (tableOf []) (tableOf [(17, 29, 115, 425), (30, 42, 115, 425), (43, 57, 115, 425), (58, 72, 115, 425), (73, 114, 115, 425)]) htab (by decide) (by decide) (by decide) (E := "SyncTreeModel$Off") W_7_174 W_9_132 [] tC_11 k1 i2 Y_X12_up W_7_179 W_7_181 Wp_57 (c_X12_up h5) (by decide) (by decide) rfl (Nat.le_of_ble_eq_true rfl) dX12_entry_6 rfl (fun q56 => ?_)
    refine zx_astore_n C [(3, .ref (q56)), (0, .ref (a0)), (1, .int (p0)), (2, .int (p1))] dX12_entry_115 rfl (by decide) rfl ?_
    refine zx_aload_n C dX12_entry_116 1 rfl ?_
    obtain ⟨k58, i59, hm⟩ := ckO_e hm
    obtain ⟨v60, ρ61, h62, hm⟩ := cll_e hm
    refine zx_callV (σ := ρ57) C [] tC_11 k58 i59 Y_X12_off W_8_135 W_8_137 Wp_103 (c_X12_off h62) (by decide) (by decide) rfl (Nat.le_of_ble_eq_true rfl) dX12_entry_117 rfl ?_
    obtain ⟨rfl, rfl⟩ := ret_e hm
    exact zx_iret C rfl rfl rfl dX12_entry_120
abbrev cX12_textAt : ByteArray := prog_13_method_98_code
def yX12_textAt : MethodName := ⟨"SyncTreeModel", "textAt", "(I)I"⟩
theorem Y_X12_textAt : tYH yX12_textAt cX12_textAt 3 (some .int) [(5, 21, 62, 425), (22, 34, 62, 425), (35, 61, 62, 425)] 1 := ⟨W_9_35, W_1_14, ⟨by decide +kernel, by decide +kernel⟩, by decide +kernel⟩
theorem dX12_textAt_0 : decode cX12_textAt 0 = .ok (.aload_n 0, 1) := by decide +kernel
theorem dX12_textAt_1 : decode cX12_textAt 1 = .ok (.iconst 0, 1) := by decide +kernel
theorem dX12_textAt_2 : decode cX12_textAt 2 = .ok (.putfield 3, 3) := by decide +kernel
theorem dX12_textAt_5 : decode cX12_textAt 5 = .ok (.aload_n 0, 1) := by decide +kernel
theorem dX12_textAt_6 : decode cX12_textAt 6 = .ok (.invokevirtual 403, 3) := by decide +kernel
theorem dX12_textAt_9 : decode cX12_textAt 9 = .ok (.aload_n 0, 1) := by decide +kernel
theorem dX12_textAt_10 : decode cX12_textAt 10 = .ok (.iconst 0, 1) := by decide +kernel
theorem dX12_textAt_11 : decode cX12_textAt 11 = .ok (.iconst 0, 1) := by decide +kernel
theorem dX12_textAt_12 : decode cX12_textAt 12 = .ok (.invokevirtual 430, 3) := by decide +kernel
theorem dX12_textAt_15 : decode cX12_textAt 15 = .ok (.istore_n 2, 1) := by decide +kernel
theorem dX12_textAt_16 : decode cX12_textAt 16 = .ok (.iload_n 2, 1) := by decide +kernel
theorem dX12_textAt_17 : decode cX12_textAt 17 = .ok (.ifCond .ge 5, 3) := by decide +kernel
theorem dX12_textAt_20 : decode cX12_textAt 20 = .ok (.iload_n 2, 1) := by decide +kernel
theorem dX12_textAt_21 : decode cX12_textAt 21 = .ok (.ireturn, 1) := by decide +kernel
theorem dX12_textAt_22 : decode cX12_textAt 22 = .ok (.aload_n 0, 1) := by decide +kernel
theorem dX12_textAt_23 : decode cX12_textAt 23 = .ok (.iload_n 2, 1) := by decide +kernel
theorem dX12_textAt_24 : decode cX12_textAt 24 = .ok (.iconst 0, 1) := by decide +kernel
theorem dX12_textAt_25 : decode cX12_textAt 25 = .ok (.invokevirtual 247, 3) := by decide +kernel
theorem dX12_textAt_28 : decode cX12_textAt 28 = .ok (.iconst 3, 1) := by decide +kernel
theorem dX12_textAt_29 : decode cX12_textAt 29 = .ok (.if_icmp .eq 6, 3) := by decide +kernel
theorem dX12_textAt_32 : decode cX12_textAt 32 = .ok (.bipush (-9), 2) := by decide +kernel
theorem dX12_textAt_34 : decode cX12_textAt 34 = .ok (.ireturn, 1) := by decide +kernel
theorem dX12_textAt_35 : decode cX12_textAt 35 = .ok (.iload_n 1, 1) := by decide +kernel
theorem dX12_textAt_36 : decode cX12_textAt 36 = .ok (.ifCond .lt 13, 3) := by decide +kernel
theorem dX12_textAt_39 : decode cX12_textAt 39 = .ok (.iload_n 1, 1) := by decide +kernel
theorem dX12_textAt_40 : decode cX12_textAt 40 = .ok (.aload_n 0, 1) := by decide +kernel
theorem dX12_textAt_41 : decode cX12_textAt 41 = .ok (.iload_n 2, 1) := by decide +kernel
theorem dX12_textAt_42 : decode cX12_textAt 42 = .ok (.iconst 4, 1) := by decide +kernel
theorem dX12_textAt_43 : decode cX12_textAt 43 = .ok (.invokevirtual 247, 3) := by decide +kernel
theorem dX12_textAt_46 : decode cX12_textAt 46 = .ok (.if_icmp .lt 7, 3) := by decide +kernel
theorem dX12_textAt_49 : decode cX12_textAt 49 = .ok (.iconst (-1), 1) := by decide +kernel
theorem dX12_textAt_50 : decode cX12_textAt 50 = .ok (.goto 11, 3) := by decide +kernel
theorem dX12_textAt_53 : decode cX12_textAt 53 = .ok (.aload_n 0, 1) := by decide +kernel
theorem dX12_textAt_54 : decode cX12_textAt 54 = .ok (.iload_n 2, 1) := by decide +kernel
theorem dX12_textAt_55 : decode cX12_textAt 55 = .ok (.iconst 5, 1) := by decide +kernel
theorem dX12_textAt_56 : decode cX12_textAt 56 = .ok (.iload_n 1, 1) := by decide +kernel
theorem dX12_textAt_57 : decode cX12_textAt 57 = .ok (.iadd, 1) := by decide +kernel
theorem dX12_textAt_58 : decode cX12_textAt 58 = .ok (.invokevirtual 247, 3) := by decide +kernel
theorem dX12_textAt_61 : decode cX12_textAt 61 = .ok (.ireturn, 1) := by decide +kernel
theorem dX12_textAt_62 : decode cX12_textAt 62 = .ok (.astore_n 2, 1) := by decide +kernel
theorem dX12_textAt_63 : decode cX12_textAt 63 = .ok (.aload_n 0, 1) := by decide +kernel
theorem dX12_textAt_64 : decode cX12_textAt 64 = .ok (.invokevirtual 427, 3) := by decide +kernel
theorem dX12_textAt_67 : decode cX12_textAt 67 = .ok (.ireturn, 1) := by decide +kernel
set_option maxRecDepth 100000 in
set_option maxHeartbeats 1000000 in
theorem j_X12_textAt_61 {p : Program} {l : Launch} {e : Env} {s : State} {m : MethodId} {args : Array Value} {below : List Frame} {meth : Method} {c : Code} {D : va_G} {aC : Nat → ClassId} {b0 fu : Nat} {σ0 τ : tM} {v : Int32}  (C : tCx p l s m args meth c yX12_textAt.cls cX12_textAt 3 (some .int) D aC b0 σ0) (htab : c.exceptionTable.toList = tableOf [(5, 21, 62, 425), (22, 34, 62, 425), (35, 61, 62, 425)]) (hin : meth.name = yX12_textAt.name)  {s0 : Int32} {σ : tM} (hm : J_X12_textAt_61 b0 fu  s0 σ = some (v, τ)) : tX p l e s m args below meth c 3 9 215 D aC b0 σ0 (.inl (some (.int v))) τ 61 [] [.int (s0)] σ := by
  unfold J_X12_textAt_61 at hm
  obtain ⟨rfl, rfl⟩ := ret_e hm
  exact zx_iret C rfl rfl rfl dX12_textAt_61
set_option maxRecDepth 100000 in
set_option maxHeartbeats 1000000 in
theorem j_X12_textAt_49 {p : Program} {l : Launch} {e : Env} {s : State} {m : MethodId} {args : Array Value} {below : List Frame} {meth : Method} {c : Code} {D : va_G} {aC : Nat → ClassId} {b0 fu : Nat} {σ0 τ : tM} {v : Int32}  (C : tCx p l s m args meth c yX12_textAt.cls cX12_textAt 3 (some .int) D aC b0 σ0) (htab : c.exceptionTable.toList = tableOf [(5, 21, 62, 425), (22, 34, 62, 425), (35, 61, 62, 425)]) (hin : meth.name = yX12_textAt.name)   {σ : tM} (hm : J_X12_textAt_49 b0 fu   σ = some (v, τ)) : tX p l e s m args below meth c 3 9 215 D aC b0 σ0 (.inl (some (.int v))) τ 49 [] [] σ := by
  unfold J_X12_textAt_49 at hm
  refine zx_iconst (v := (-1)) C dX12_textAt_49 (by decide) ?_
  refine zx_goto C 61 dX12_textAt_50 (by decide) ?_
  exact zx_lv [] [] rfl (j_X12_textAt_61 C htab hin    hm)
set_option maxRecDepth 100000 in
set_option maxHeartbeats 1000000 in
theorem c_X12_textAt {l : Launch} {D : va_G} {aC : Nat → ClassId} {b0 fu : Nat} {a0 : Nat} {p0 : Int32} {σ τ : tM} {v : Int32} (hm : m_X12_textAt b0 fu a0 p0 σ = some (v, τ)) : tMt l D aC b0 yX12_textAt (Cond.codeWith yX12_textAt cX12_textAt 3 (some .int) [(5, 21, 62, 425), (22, 34, 62, 425), (35, 61, 62, 425)]) 9 215 [.ref (a0), .int (p0)] σ (.inl (some (.int v))) τ := by
  unfold m_X12_textAt at hm
  obtain ⟨hg, hm⟩ := grw_e hm
  refine tMt_ofH rfl (Nat.le_of_ble_eq_true rfl) hg ?_
  intro p e s m below meth c C htab hin
  refine zx_lv [0, 1] [(0, .ref (a0)), (1, .int (p0))] rfl ?_
  refine zx_aload_n C dX12_textAt_0 0 rfl ?_
  refine zx_iconst (v := 0) C dX12_textAt_1 (by decide) ?_
  obtain ⟨k1, i2, hm⟩ := ckO_e hm
  refine zx_put (j := 0) (ρ := sI (σ) (a0) 0 (0)) C tC_11 k1 i2 ⟨by decide, Or.inl W_6_220⟩ rfl rfl rfl (sI_ok (fun _ => rfl)) dX12_textAt_2 ?_
  refine zx_aload_n C dX12_textAt_5 0 rfl ?_
  rcases cly_e hm with ⟨v3, ρ4, h5, hm⟩ | ⟨ρ31, h5, hm⟩
  · refine zx_callV (σ := sI (σ) (a0) 0 (0)) C [] tC_11 k1 i2 Y_X12_up W_7_179 W_7_181 Wp_57 (c_X12_up h5) (by decide) (by decide) rfl (Nat.le_of_ble_eq_true rfl) dX12_textAt_6 rfl ?_
    refine zx_aload_n C dX12_textAt_9 0 rfl ?_
    refine zx_iconst (v := 0) C dX12_textAt_10 (by decide) ?_
    refine zx_iconst (v := 0) C dX12_textAt_11 (by decide) ?_
    obtain ⟨k6, i7, hm⟩ := ckO_e hm
    obtain ⟨v8, ρ9, h10, hm⟩ := cll_e hm
    refine zx_callV (σ := ρ4) C [.int (0), .int (0)] tC_11 k6 i7 Y_X12_walkTo W_8_151 W_8_153 Wp_104 (c_X12_walkTo h10) (by decide) (by decide) rfl (Nat.le_of_ble_eq_true rfl) dX12_textAt_12 rfl ?_
    refine zx_istore_n C [(2, .int (v8)), (0, .ref (a0)), (1, .int (p0))] dX12_textAt_15 rfl (by decide) rfl ?_
    refine zx_iload_n C dX12_textAt_16 0 rfl ?_
    refine zx_if_ge C 22 dX12_textAt_17 (by decide) (fun c11 => ?_) (fun c11 => ?_)
    · replace hm := ip_e hm c11
      refine zx_aload_n C dX12_textAt_22 1 rfl ?_
      refine zx_iload_n C dX12_textAt_23 0 rfl ?_
      refine zx_iconst (v := 0) C dX12_textAt_24 (by decide) ?_
      obtain ⟨k12, i13, hm⟩ := ckO_e hm
      obtain ⟨v14, ρ15, h16, hm⟩ := cll_e hm
      refine zx_callV (σ := ρ9) C [.int (v8), .int (0)] tC_11 k12 i13 Y_X12_node W_8_40 W_8_42 Wp_80 (c_X12_node h16) (by decide) (by decide) rfl (Nat.le_of_ble_eq_true rfl) dX12_textAt_25 rfl ?_
      refine zx_iconst (v := 3) C dX12_textAt_28 (by decide) ?_
      refine zx_icmp_eq C 35 dX12_textAt_29 (by decide) (fun c17 => ?_) (fun c17 => ?_)
      · replace hm := ip_e hm c17
        refine zx_iload_n C dX12_textAt_35 2 rfl ?_
        refine zx_if_lt C 49 dX12_textAt_36 (by decide) (fun c18 => ?_) (fun c18 => ?_)
        · replace hm := ip_e hm c18
          exact zx_lv [] [] rfl (j_X12_textAt_49 C htab hin    hm)
        · replace hm := in_e hm c18
          refine zx_iload_n C dX12_textAt_39 2 rfl ?_
          refine zx_aload_n C dX12_textAt_40 1 rfl ?_
          refine zx_iload_n C dX12_textAt_41 0 rfl ?_
          refine zx_iconst (v := 4) C dX12_textAt_42 (by decide) ?_
          obtain ⟨k19, i20, hm⟩ := ckO_e hm
          obtain ⟨v21, ρ22, h23, hm⟩ := cll_e hm
          refine zx_callV (σ := ρ15) C [.int (v8), .int (4)] tC_11 k19 i20 Y_X12_node W_8_40 W_8_42 Wp_80 (c_X12_node h23) (by decide) (by decide) rfl (Nat.le_of_ble_eq_true rfl) dX12_textAt_43 rfl ?_
          refine zx_icmp_lt C 53 dX12_textAt_46 (by decide) (fun c24 => ?_) (fun c24 => ?_)
          · replace hm := ip_e hm c24
            refine zx_aload_n C dX12_textAt_53 1 rfl ?_
            refine zx_iload_n C dX12_textAt_54 0 rfl ?_
            refine zx_iconst (v := 5) C dX12_textAt_55 (by decide) ?_
            refine zx_iload_n C dX12_textAt_56 2 rfl ?_
            refine zx_iadd C dX12_textAt_57 ?_
            obtain ⟨k25, i26, hm⟩ := ckO_e hm
            obtain ⟨v27, ρ28, h29, hm⟩ := cll_e hm
            refine zx_callV (σ := ρ22) C [.int (v8), .int ((5) + (p0))] tC_11 k25 i26 Y_X12_node W_8_40 W_8_42 Wp_80 (c_X12_node h29) (by decide) (by decide) rfl (Nat.le_of_ble_eq_true rfl) dX12_textAt_58 rfl ?_
            exact zx_lv [] [] rfl (j_X12_textAt_61 C htab hin    hm)
          · replace hm := in_e hm c24
            exact zx_lv [] [] rfl (j_X12_textAt_49 C htab hin    hm)
      · replace hm := in_e hm c17
        refine zx_bipush (v := (-9)) C dX12_textAt_32 (by decide) ?_
        obtain ⟨rfl, rfl⟩ := ret_e hm
        exact zx_iret C rfl rfl rfl dX12_textAt_34
    · replace hm := in_e hm c11
      refine zx_iload_n C dX12_textAt_20 0 rfl ?_
      obtain ⟨rfl, rfl⟩ := ret_e hm
      exact zx_iret C rfl rfl rfl dX12_textAt_21
  · refine zx_catchV (σ := sI (σ) (a0) 0 (0)) (x9 := { startPc := 5, endPc := 21, handlerPc := 62, catchType := 425 }) C (tableOf []) (tableOf [(22, 34, 62, 425), (35, 61, 62, 425)]) htab (by decide) (by decide) (by decide) (E := "SyncTreeModel$Off") W_7_174 W_9_132 [] tC_11 k1 i2 Y_X12_up W_7_179 W_7_181 Wp_57 (c_X12_up h5) (by decide) (by decide) rfl (Nat.le_of_ble_eq_true rfl) dX12_textAt_6 rfl (fun q30 => ?_)
    refine zx_astore_n C [(2, .ref (q30)), (0, .ref (a0)), (1, .int (p0))] dX12_textAt_62 rfl (by decide) rfl ?_
    refine zx_aload_n C dX12_textAt_63 1 rfl ?_
    obtain ⟨k32, i33, hm⟩ := ckO_e hm
    obtain ⟨v34, ρ35, h36, hm⟩ := cll_e hm
    refine zx_callV (σ := ρ31) C [] tC_11 k32 i33 Y_X12_off W_8_135 W_8_137 Wp_103 (c_X12_off h36) (by decide) (by decide) rfl (Nat.le_of_ble_eq_true rfl) dX12_textAt_64 rfl ?_
    obtain ⟨rfl, rfl⟩ := ret_e hm
    exact zx_iret C rfl rfl rfl dX12_textAt_67
abbrev cX12_blockOf : ByteArray := prog_13_method_99_code
def yX12_blockOf : MethodName := ⟨"SyncTreeModel", "blockOf", "(II)I"⟩
theorem Y_X12_blockOf : tYH yX12_blockOf cX12_blockOf 4 (some .int) [(5, 30, 59, 425), (31, 58, 59, 425)] 2 := ⟨W_9_39, W_1_14, ⟨by decide +kernel, by decide +kernel⟩, by decide +kernel⟩
theorem dX12_blockOf_0 : decode cX12_blockOf 0 = .ok (.aload_n 0, 1) := by decide +kernel
theorem dX12_blockOf_1 : decode cX12_blockOf 1 = .ok (.iconst 0, 1) := by decide +kernel
theorem dX12_blockOf_2 : decode cX12_blockOf 2 = .ok (.putfield 3, 3) := by decide +kernel
theorem dX12_blockOf_5 : decode cX12_blockOf 5 = .ok (.aload_n 0, 1) := by decide +kernel
theorem dX12_blockOf_6 : decode cX12_blockOf 6 = .ok (.invokevirtual 403, 3) := by decide +kernel
theorem dX12_blockOf_9 : decode cX12_blockOf 9 = .ok (.aload_n 0, 1) := by decide +kernel
theorem dX12_blockOf_10 : decode cX12_blockOf 10 = .ok (.iload_n 1, 1) := by decide +kernel
theorem dX12_blockOf_11 : decode cX12_blockOf 11 = .ok (.invokevirtual 446, 3) := by decide +kernel
theorem dX12_blockOf_14 : decode cX12_blockOf 14 = .ok (.ifCond .eq 14, 3) := by decide +kernel
theorem dX12_blockOf_17 : decode cX12_blockOf 17 = .ok (.iload_n 2, 1) := by decide +kernel
theorem dX12_blockOf_18 : decode cX12_blockOf 18 = .ok (.ifCond .lt 10, 3) := by decide +kernel
theorem dX12_blockOf_21 : decode cX12_blockOf 21 = .ok (.iload_n 2, 1) := by decide +kernel
theorem dX12_blockOf_22 : decode cX12_blockOf 22 = .ok (.sipush 1063, 3) := by decide +kernel
theorem dX12_blockOf_25 : decode cX12_blockOf 25 = .ok (.if_icmp .le 6, 3) := by decide +kernel
theorem dX12_blockOf_28 : decode cX12_blockOf 28 = .ok (.bipush (-9), 2) := by decide +kernel
theorem dX12_blockOf_30 : decode cX12_blockOf 30 = .ok (.ireturn, 1) := by decide +kernel
theorem dX12_blockOf_31 : decode cX12_blockOf 31 = .ok (.aload_n 0, 1) := by decide +kernel
theorem dX12_blockOf_32 : decode cX12_blockOf 32 = .ok (.aload_n 0, 1) := by decide +kernel
theorem dX12_blockOf_33 : decode cX12_blockOf 33 = .ok (.getfield 286, 3) := by decide +kernel
theorem dX12_blockOf_36 : decode cX12_blockOf 36 = .ok (.iload_n 1, 1) := by decide +kernel
theorem dX12_blockOf_37 : decode cX12_blockOf 37 = .ok (.iaload, 1) := by decide +kernel
theorem dX12_blockOf_38 : decode cX12_blockOf 38 = .ok (.iload_n 2, 1) := by decide +kernel
theorem dX12_blockOf_39 : decode cX12_blockOf 39 = .ok (.invokevirtual 259, 3) := by decide +kernel
theorem dX12_blockOf_42 : decode cX12_blockOf 42 = .ok (.istore_n 3, 1) := by decide +kernel
theorem dX12_blockOf_43 : decode cX12_blockOf 43 = .ok (.iload_n 3, 1) := by decide +kernel
theorem dX12_blockOf_44 : decode cX12_blockOf 44 = .ok (.ifCond .ne 7, 3) := by decide +kernel
theorem dX12_blockOf_47 : decode cX12_blockOf 47 = .ok (.iconst 0, 1) := by decide +kernel
theorem dX12_blockOf_48 : decode cX12_blockOf 48 = .ok (.goto 10, 3) := by decide +kernel
theorem dX12_blockOf_51 : decode cX12_blockOf 51 = .ok (.aload_n 0, 1) := by decide +kernel
theorem dX12_blockOf_52 : decode cX12_blockOf 52 = .ok (.iload_n 3, 1) := by decide +kernel
theorem dX12_blockOf_53 : decode cX12_blockOf 53 = .ok (.iconst 1, 1) := by decide +kernel
theorem dX12_blockOf_54 : decode cX12_blockOf 54 = .ok (.isub, 1) := by decide +kernel
theorem dX12_blockOf_55 : decode cX12_blockOf 55 = .ok (.invokevirtual 240, 3) := by decide +kernel
theorem dX12_blockOf_58 : decode cX12_blockOf 58 = .ok (.ireturn, 1) := by decide +kernel
theorem dX12_blockOf_59 : decode cX12_blockOf 59 = .ok (.astore_n 3, 1) := by decide +kernel
theorem dX12_blockOf_60 : decode cX12_blockOf 60 = .ok (.aload_n 0, 1) := by decide +kernel
theorem dX12_blockOf_61 : decode cX12_blockOf 61 = .ok (.invokevirtual 427, 3) := by decide +kernel
theorem dX12_blockOf_64 : decode cX12_blockOf 64 = .ok (.ireturn, 1) := by decide +kernel
set_option maxRecDepth 100000 in
set_option maxHeartbeats 1000000 in
theorem j_X12_blockOf_28 {p : Program} {l : Launch} {e : Env} {s : State} {m : MethodId} {args : Array Value} {below : List Frame} {meth : Method} {c : Code} {D : va_G} {aC : Nat → ClassId} {b0 fu : Nat} {σ0 τ : tM} {v : Int32}  (C : tCx p l s m args meth c yX12_blockOf.cls cX12_blockOf 4 (some .int) D aC b0 σ0) (htab : c.exceptionTable.toList = tableOf [(5, 30, 59, 425), (31, 58, 59, 425)]) (hin : meth.name = yX12_blockOf.name)   {σ : tM} (hm : J_X12_blockOf_28 b0 fu   σ = some (v, τ)) : tX p l e s m args below meth c 4 4 89 D aC b0 σ0 (.inl (some (.int v))) τ 28 [] [] σ := by
  unfold J_X12_blockOf_28 at hm
  refine zx_bipush (v := (-9)) C dX12_blockOf_28 (by decide) ?_
  obtain ⟨rfl, rfl⟩ := ret_e hm
  exact zx_iret C rfl rfl rfl dX12_blockOf_30
set_option maxRecDepth 100000 in
set_option maxHeartbeats 1000000 in
theorem j_X12_blockOf_58 {p : Program} {l : Launch} {e : Env} {s : State} {m : MethodId} {args : Array Value} {below : List Frame} {meth : Method} {c : Code} {D : va_G} {aC : Nat → ClassId} {b0 fu : Nat} {σ0 τ : tM} {v : Int32}  (C : tCx p l s m args meth c yX12_blockOf.cls cX12_blockOf 4 (some .int) D aC b0 σ0) (htab : c.exceptionTable.toList = tableOf [(5, 30, 59, 425), (31, 58, 59, 425)]) (hin : meth.name = yX12_blockOf.name)  {s0 : Int32} {σ : tM} (hm : J_X12_blockOf_58 b0 fu  s0 σ = some (v, τ)) : tX p l e s m args below meth c 4 4 89 D aC b0 σ0 (.inl (some (.int v))) τ 58 [] [.int (s0)] σ := by
  unfold J_X12_blockOf_58 at hm
  obtain ⟨rfl, rfl⟩ := ret_e hm
  exact zx_iret C rfl rfl rfl dX12_blockOf_58
set_option maxRecDepth 100000 in
set_option maxHeartbeats 1000000 in
theorem c_X12_blockOf {l : Launch} {D : va_G} {aC : Nat → ClassId} {b0 fu : Nat} {a0 : Nat} {p0 : Int32} {p1 : Int32} {σ τ : tM} {v : Int32} (hm : m_X12_blockOf b0 fu a0 p0 p1 σ = some (v, τ)) : tMt l D aC b0 yX12_blockOf (Cond.codeWith yX12_blockOf cX12_blockOf 4 (some .int) [(5, 30, 59, 425), (31, 58, 59, 425)]) 4 89 [.ref (a0), .int (p0), .int (p1)] σ (.inl (some (.int v))) τ := by
  unfold m_X12_blockOf at hm
  obtain ⟨hg, hm⟩ := grw_e hm
  refine tMt_ofH rfl (Nat.le_of_ble_eq_true rfl) hg ?_
  intro p e s m below meth c C htab hin
  refine zx_lv [0, 1, 2] [(0, .ref (a0)), (1, .int (p0)), (2, .int (p1))] rfl ?_
  refine zx_aload_n C dX12_blockOf_0 0 rfl ?_
  refine zx_iconst (v := 0) C dX12_blockOf_1 (by decide) ?_
  obtain ⟨k1, i2, hm⟩ := ckO_e hm
  refine zx_put (j := 0) (ρ := sI (σ) (a0) 0 (0)) C tC_11 k1 i2 ⟨by decide, Or.inl W_6_220⟩ rfl rfl rfl (sI_ok (fun _ => rfl)) dX12_blockOf_2 ?_
  refine zx_aload_n C dX12_blockOf_5 0 rfl ?_
  rcases cly_e hm with ⟨v3, ρ4, h5, hm⟩ | ⟨ρ32, h5, hm⟩
  · refine zx_callV (σ := sI (σ) (a0) 0 (0)) C [] tC_11 k1 i2 Y_X12_up W_7_179 W_7_181 Wp_57 (c_X12_up h5) (by decide) (by decide) rfl (Nat.le_of_ble_eq_true rfl) dX12_blockOf_6 rfl ?_
    refine zx_aload_n C dX12_blockOf_9 0 rfl ?_
    refine zx_iload_n C dX12_blockOf_10 1 rfl ?_
    obtain ⟨k6, i7, hm⟩ := ckO_e hm
    obtain ⟨v8, ρ9, h10, hm⟩ := cll_e hm
    refine zx_callV (σ := ρ4) C [.int (p0)] tC_11 k6 i7 Y_X12_isHandle W_8_221 W_8_223 Wp_116 (c_X12_isHandle h10) (by decide) (by decide) rfl (Nat.le_of_ble_eq_true rfl) dX12_blockOf_11 rfl ?_
    refine zx_if_eq C 28 dX12_blockOf_14 (by decide) (fun c11 => ?_) (fun c11 => ?_)
    · replace hm := ip_e hm c11
      exact zx_lv [] [] rfl (j_X12_blockOf_28 C htab hin    hm)
    · replace hm := in_e hm c11
      refine zx_iload_n C dX12_blockOf_17 2 rfl ?_
      refine zx_if_lt C 28 dX12_blockOf_18 (by decide) (fun c12 => ?_) (fun c12 => ?_)
      · replace hm := ip_e hm c12
        exact zx_lv [] [] rfl (j_X12_blockOf_28 C htab hin    hm)
      · replace hm := in_e hm c12
        refine zx_iload_n C dX12_blockOf_21 2 rfl ?_
        refine zx_sipush (v := 1063) C dX12_blockOf_22 (by decide) ?_
        refine zx_icmp_le C 31 dX12_blockOf_25 (by decide) (fun c13 => ?_) (fun c13 => ?_)
        · replace hm := ip_e hm c13
          refine zx_aload_n C dX12_blockOf_31 0 rfl ?_
          refine zx_aload_n C dX12_blockOf_32 0 rfl ?_
          obtain ⟨k14, i15, hm⟩ := ckO_e hm
          obtain ⟨a16, h17, hm⟩ := osm_e hm
          refine zx_get (j := 58) C tC_11 k14 i15 ⟨by decide, Or.inl W_7_37⟩ dX12_blockOf_33 (.ref a16) (rf_s h17) ?_
          refine zx_iload_n C dX12_blockOf_36 1 rfl ?_
          obtain ⟨n20, k18, i19, hm⟩ := ckR_e hm
          obtain ⟨h21, hm⟩ := ckI_e hm
          refine zx_iald C k18 i19 h21 dX12_blockOf_37 ?_
          refine zx_iload_n C dX12_blockOf_38 2 rfl ?_
          obtain ⟨v22, ρ23, h24, hm⟩ := cll_e hm
          refine zx_callV (σ := ρ9) C [.int (tI (ρ9) (a16) ((p0).toNatClampNeg)), .int (p1)] tC_11 k14 i15 Y_X12_has W_8_60 W_8_62 Wp_85 (c_X12_has h24) (by decide) (by decide) rfl (Nat.le_of_ble_eq_true rfl) dX12_blockOf_39 rfl ?_
          refine zx_istore_n C [(3, .int (v22)), (0, .ref (a0)), (1, .int (p0)), (2, .int (p1))] dX12_blockOf_42 rfl (by decide) rfl ?_
          refine zx_iload_n C dX12_blockOf_43 0 rfl ?_
          refine zx_if_ne C 51 dX12_blockOf_44 (by decide) (fun c25 => ?_) (fun c25 => ?_)
          · replace hm := in_e hm c25
            refine zx_aload_n C dX12_blockOf_51 1 rfl ?_
            refine zx_iload_n C dX12_blockOf_52 0 rfl ?_
            refine zx_iconst (v := 1) C dX12_blockOf_53 (by decide) ?_
            refine zx_isub C dX12_blockOf_54 ?_
            obtain ⟨k26, i27, hm⟩ := ckO_e hm
            obtain ⟨v28, ρ29, h30, hm⟩ := cll_e hm
            refine zx_callV (σ := ρ23) C [.int ((v22) - (1))] tC_11 k26 i27 Y_X12_numberOf W_8_123 W_8_125 Wp_100 (c_X12_numberOf h30) (by decide) (by decide) rfl (Nat.le_of_ble_eq_true rfl) dX12_blockOf_55 rfl ?_
            exact zx_lv [] [] rfl (j_X12_blockOf_58 C htab hin    hm)
          · replace hm := ip_e hm c25
            refine zx_iconst (v := 0) C dX12_blockOf_47 (by decide) ?_
            refine zx_goto C 58 dX12_blockOf_48 (by decide) ?_
            exact zx_lv [] [] rfl (j_X12_blockOf_58 C htab hin    hm)
        · replace hm := in_e hm c13
          exact zx_lv [] [] rfl (j_X12_blockOf_28 C htab hin    hm)
  · refine zx_catchV (σ := sI (σ) (a0) 0 (0)) (x9 := { startPc := 5, endPc := 30, handlerPc := 59, catchType := 425 }) C (tableOf []) (tableOf [(31, 58, 59, 425)]) htab (by decide) (by decide) (by decide) (E := "SyncTreeModel$Off") W_7_174 W_9_132 [] tC_11 k1 i2 Y_X12_up W_7_179 W_7_181 Wp_57 (c_X12_up h5) (by decide) (by decide) rfl (Nat.le_of_ble_eq_true rfl) dX12_blockOf_6 rfl (fun q31 => ?_)
    refine zx_astore_n C [(3, .ref (q31)), (0, .ref (a0)), (1, .int (p0)), (2, .int (p1))] dX12_blockOf_59 rfl (by decide) rfl ?_
    refine zx_aload_n C dX12_blockOf_60 1 rfl ?_
    obtain ⟨k33, i34, hm⟩ := ckO_e hm
    obtain ⟨v35, ρ36, h37, hm⟩ := cll_e hm
    refine zx_callV (σ := ρ32) C [] tC_11 k33 i34 Y_X12_off W_8_135 W_8_137 Wp_103 (c_X12_off h37) (by decide) (by decide) rfl (Nat.le_of_ble_eq_true rfl) dX12_blockOf_61 rfl ?_
    obtain ⟨rfl, rfl⟩ := ret_e hm
    exact zx_iret C rfl rfl rfl dX12_blockOf_64
