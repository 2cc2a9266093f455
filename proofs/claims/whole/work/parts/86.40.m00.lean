abbrev cX12_thrown : ByteArray := prog_13_method_1_code
def yX12_thrown : MethodName := ⟨"SyncTreeModel", "thrown", "()I"⟩
theorem Y_X12_thrown : tY yX12_thrown cX12_thrown 1 (some .int) 0 := ⟨W_6_193, W_1_14, ⟨by decide +kernel, by decide +kernel⟩, by decide +kernel⟩
theorem dX12_thrown_0 : decode cX12_thrown 0 = .ok (.aload_n 0, 1) := by decide +kernel
theorem dX12_thrown_1 : decode cX12_thrown 1 = .ok (.getfield 3, 3) := by decide +kernel
theorem dX12_thrown_4 : decode cX12_thrown 4 = .ok (.ireturn, 1) := by decide +kernel
set_option maxRecDepth 100000 in
set_option maxHeartbeats 1000000 in
theorem c_X12_thrown {l : Launch} {D : va_G} {aC : Nat → ClassId} {b0 fu : Nat} {a0 : Nat} {σ τ : tM} {v : Int32} (hm : m_X12_thrown b0 fu a0 σ = some (v, τ)) : tMt l D aC b0 yX12_thrown (Cond.code yX12_thrown cX12_thrown 1 (some .int)) 0 0 [.ref (a0)] σ (.inl (some (.int v))) τ := by
  unfold m_X12_thrown at hm
  obtain ⟨hg, hm⟩ := grw_e hm
  refine tMt_of (n := 0) rfl (Nat.le_of_ble_eq_true rfl) hg ?_
  intro p e s m below meth c C htab hin
  refine zx_lv [0] [(0, .ref (a0))] rfl ?_
  refine zx_aload_n C dX12_thrown_0 0 rfl ?_
  obtain ⟨k1, i2, hm⟩ := ckO_e hm
  refine zx_get (j := 0) C tC_11 k1 i2 ⟨by decide, Or.inl W_6_220⟩ dX12_thrown_1 (.int (tI (σ) (a0) 0)) rfl ?_
  obtain ⟨rfl, rfl⟩ := ret_e hm
  exact zx_iret C rfl rfl rfl dX12_thrown_4
abbrev cX12_longer : ByteArray := prog_13_method_2_code
def yX12_longer : MethodName := ⟨"SyncTreeModel", "longer", "([II)[I"⟩
theorem Y_X12_longer : tY yX12_longer cX12_longer 3 (some (.array .int)) 2 := ⟨W_8_15, W_1_14, ⟨by decide +kernel, by decide +kernel⟩, by decide +kernel⟩
theorem dX12_longer_0 : decode cX12_longer 0 = .ok (.iload_n 1, 1) := by decide +kernel
theorem dX12_longer_1 : decode cX12_longer 1 = .ok (.newarray .int, 2) := by decide +kernel
theorem dX12_longer_3 : decode cX12_longer 3 = .ok (.astore_n 2, 1) := by decide +kernel
theorem dX12_longer_4 : decode cX12_longer 4 = .ok (.aload_n 0, 1) := by decide +kernel
theorem dX12_longer_5 : decode cX12_longer 5 = .ok (.iconst 0, 1) := by decide +kernel
theorem dX12_longer_6 : decode cX12_longer 6 = .ok (.aload_n 2, 1) := by decide +kernel
theorem dX12_longer_7 : decode cX12_longer 7 = .ok (.iconst 0, 1) := by decide +kernel
theorem dX12_longer_8 : decode cX12_longer 8 = .ok (.aload_n 0, 1) := by decide +kernel
theorem dX12_longer_9 : decode cX12_longer 9 = .ok (.arraylength, 1) := by decide +kernel
theorem dX12_longer_10 : decode cX12_longer 10 = .ok (.invokestatic 7, 3) := by decide +kernel
theorem dX12_longer_13 : decode cX12_longer 13 = .ok (.aload_n 2, 1) := by decide +kernel
theorem dX12_longer_14 : decode cX12_longer 14 = .ok (.areturn, 1) := by decide +kernel
set_option maxRecDepth 100000 in
set_option maxHeartbeats 1000000 in
theorem c_X12_longer {l : Launch} {D : va_G} {aC : Nat → ClassId} {b0 fu : Nat} {p0 : Nat} {p1 : Int32} {σ τ : tM} {v : Option Nat} (hm : m_X12_longer b0 fu p0 p1 σ = some (v, τ)) : tMt l D aC b0 yX12_longer (Cond.code yX12_longer cX12_longer 3 (some (.array .int))) 1 26 [.ref (p0), .int (p1)] σ (.inl (some (va_rf v))) τ := by
  unfold m_X12_longer at hm
  obtain ⟨hg, hm⟩ := grw_e hm
  refine tMt_of (n := 0) rfl (Nat.le_of_ble_eq_true rfl) hg ?_
  intro p e s m below meth c C htab hin
  refine zx_lv [0, 1] [(0, .ref (p0)), (1, .int (p1))] rfl ?_
  refine zx_iload_n C dX12_longer_0 1 rfl ?_
  obtain ⟨h13, h14, hm⟩ := ckN_e hm
  refine zx_newI C W_1_85 h13 h14 dX12_longer_1 ?_
  refine zx_mem (fun ρ1 hρ1 => ?_)
  replace hm := ltb_e hm hρ1
  have k2 : tk ρ1 (b0 + tn σ) = .inr (0, (p1).toNatClampNeg) := by rw [hρ1]; exact sN_k _ _ _ _
  have i3 : tIn b0 ρ1 (b0 + tn σ) := by rw [hρ1]; exact sN_i _ _ _ _
  refine zx_astore_n C [(2, .ref (b0 + tn σ)), (0, .ref (p0)), (1, .int (p1))] dX12_longer_3 rfl (by decide) rfl ?_
  refine zx_aload_n C dX12_longer_4 1 rfl ?_
  refine zx_iconst (v := 0) C dX12_longer_5 (by decide) ?_
  refine zx_aload_n C dX12_longer_6 0 rfl ?_
  refine zx_iconst (v := 0) C dX12_longer_7 (by decide) ?_
  refine zx_aload_n C dX12_longer_8 1 rfl ?_
  obtain ⟨n6, k4, i5, hm⟩ := ckR_e hm
  refine zx_alen C k4 (by decide) i5 dX12_longer_9 ?_
  obtain ⟨h7, hm⟩ := ckC_e hm
  refine zx_copyI (σ := ρ1) C W_7_169 W_2_135 W_2_134 W_1_11 k4 i5 k2 i3 h7  (by decide) (by decide) (Nat.le_of_ble_eq_true rfl) dX12_longer_10 ?_
  refine zx_mem (fun ρ8 hρ8 => ?_)
  replace hm := ltb_e hm hρ8
  have k9 : tk ρ8 (b0 + tn σ) = .inr (0, (p1).toNatClampNeg) := by rw [hρ8]; exact k2
  have i10 : tIn b0 ρ8 (b0 + tn σ) := by rw [hρ8]; exact i3
  have k11 : tk ρ8 (p0) = .inr (0, n6) := by rw [hρ8]; exact k4
  have i12 : tIn b0 ρ8 (p0) := by rw [hρ8]; exact i5
  refine zx_aload_n C dX12_longer_13 0 rfl ?_
  obtain ⟨rfl, rfl⟩ := ret_e hm
  exact zx_aret (x := some (b0 + tn σ)) C rfl (Or.inr ⟨_, rfl⟩) rfl rfl dX12_longer_14
abbrev cX12_put : ByteArray := prog_13_method_3_code
def yX12_put : MethodName := ⟨"SyncTreeModel", "put", "(II)V"⟩
theorem Y_X12_put : tY yX12_put cX12_put 3 none 2 := ⟨W_8_106, W_1_14, ⟨by decide +kernel, by decide +kernel⟩, by decide +kernel⟩
theorem dX12_put_0 : decode cX12_put 0 = .ok (.aload_n 0, 1) := by decide +kernel
theorem dX12_put_1 : decode cX12_put 1 = .ok (.getfield 13, 3) := by decide +kernel
theorem dX12_put_4 : decode cX12_put 4 = .ok (.iload_n 1, 1) := by decide +kernel
theorem dX12_put_5 : decode cX12_put 5 = .ok (.iaload, 1) := by decide +kernel
theorem dX12_put_6 : decode cX12_put 6 = .ok (.iload_n 2, 1) := by decide +kernel
theorem dX12_put_7 : decode cX12_put 7 = .ok (.if_icmp .ne 4, 3) := by decide +kernel
theorem dX12_put_10 : decode cX12_put 10 = .ok (.return_, 1) := by decide +kernel
theorem dX12_put_11 : decode cX12_put 11 = .ok (.aload_n 0, 1) := by decide +kernel
theorem dX12_put_12 : decode cX12_put 12 = .ok (.getfield 17, 3) := by decide +kernel
theorem dX12_put_15 : decode cX12_put 15 = .ok (.aload_n 0, 1) := by decide +kernel
theorem dX12_put_16 : decode cX12_put 16 = .ok (.getfield 20, 3) := by decide +kernel
theorem dX12_put_19 : decode cX12_put 19 = .ok (.arraylength, 1) := by decide +kernel
theorem dX12_put_20 : decode cX12_put 20 = .ok (.if_icmp .ne 37, 3) := by decide +kernel
theorem dX12_put_23 : decode cX12_put 23 = .ok (.aload_n 0, 1) := by decide +kernel
theorem dX12_put_24 : decode cX12_put 24 = .ok (.aload_n 0, 1) := by decide +kernel
theorem dX12_put_25 : decode cX12_put 25 = .ok (.getfield 20, 3) := by decide +kernel
theorem dX12_put_28 : decode cX12_put 28 = .ok (.iconst 2, 1) := by decide +kernel
theorem dX12_put_29 : decode cX12_put 29 = .ok (.aload_n 0, 1) := by decide +kernel
theorem dX12_put_30 : decode cX12_put 30 = .ok (.getfield 17, 3) := by decide +kernel
theorem dX12_put_33 : decode cX12_put 33 = .ok (.imul, 1) := by decide +kernel
theorem dX12_put_34 : decode cX12_put 34 = .ok (.invokestatic 23, 3) := by decide +kernel
theorem dX12_put_37 : decode cX12_put 37 = .ok (.putfield 20, 3) := by decide +kernel
theorem dX12_put_40 : decode cX12_put 40 = .ok (.aload_n 0, 1) := by decide +kernel
theorem dX12_put_41 : decode cX12_put 41 = .ok (.aload_n 0, 1) := by decide +kernel
theorem dX12_put_42 : decode cX12_put 42 = .ok (.getfield 27, 3) := by decide +kernel
theorem dX12_put_45 : decode cX12_put 45 = .ok (.iconst 2, 1) := by decide +kernel
theorem dX12_put_46 : decode cX12_put 46 = .ok (.aload_n 0, 1) := by decide +kernel
theorem dX12_put_47 : decode cX12_put 47 = .ok (.getfield 17, 3) := by decide +kernel
theorem dX12_put_50 : decode cX12_put 50 = .ok (.imul, 1) := by decide +kernel
theorem dX12_put_51 : decode cX12_put 51 = .ok (.invokestatic 23, 3) := by decide +kernel
theorem dX12_put_54 : decode cX12_put 54 = .ok (.putfield 27, 3) := by decide +kernel
theorem dX12_put_57 : decode cX12_put 57 = .ok (.aload_n 0, 1) := by decide +kernel
theorem dX12_put_58 : decode cX12_put 58 = .ok (.getfield 20, 3) := by decide +kernel
theorem dX12_put_61 : decode cX12_put 61 = .ok (.aload_n 0, 1) := by decide +kernel
theorem dX12_put_62 : decode cX12_put 62 = .ok (.getfield 17, 3) := by decide +kernel
theorem dX12_put_65 : decode cX12_put 65 = .ok (.iload_n 1, 1) := by decide +kernel
theorem dX12_put_66 : decode cX12_put 66 = .ok (.iastore, 1) := by decide +kernel
theorem dX12_put_67 : decode cX12_put 67 = .ok (.aload_n 0, 1) := by decide +kernel
theorem dX12_put_68 : decode cX12_put 68 = .ok (.getfield 27, 3) := by decide +kernel
theorem dX12_put_71 : decode cX12_put 71 = .ok (.aload_n 0, 1) := by decide +kernel
theorem dX12_put_72 : decode cX12_put 72 = .ok (.getfield 17, 3) := by decide +kernel
theorem dX12_put_75 : decode cX12_put 75 = .ok (.aload_n 0, 1) := by decide +kernel
theorem dX12_put_76 : decode cX12_put 76 = .ok (.getfield 13, 3) := by decide +kernel
theorem dX12_put_79 : decode cX12_put 79 = .ok (.iload_n 1, 1) := by decide +kernel
theorem dX12_put_80 : decode cX12_put 80 = .ok (.iaload, 1) := by decide +kernel
theorem dX12_put_81 : decode cX12_put 81 = .ok (.iastore, 1) := by decide +kernel
theorem dX12_put_82 : decode cX12_put 82 = .ok (.aload_n 0, 1) := by decide +kernel
theorem dX12_put_83 : decode cX12_put 83 = .ok (.dup, 1) := by decide +kernel
theorem dX12_put_84 : decode cX12_put 84 = .ok (.getfield 17, 3) := by decide +kernel
theorem dX12_put_87 : decode cX12_put 87 = .ok (.iconst 1, 1) := by decide +kernel
theorem dX12_put_88 : decode cX12_put 88 = .ok (.iadd, 1) := by decide +kernel
theorem dX12_put_89 : decode cX12_put 89 = .ok (.putfield 17, 3) := by decide +kernel
theorem dX12_put_92 : decode cX12_put 92 = .ok (.aload_n 0, 1) := by decide +kernel
theorem dX12_put_93 : decode cX12_put 93 = .ok (.getfield 13, 3) := by decide +kernel
theorem dX12_put_96 : decode cX12_put 96 = .ok (.iload_n 1, 1) := by decide +kernel
theorem dX12_put_97 : decode cX12_put 97 = .ok (.iload_n 2, 1) := by decide +kernel
theorem dX12_put_98 : decode cX12_put 98 = .ok (.iastore, 1) := by decide +kernel
theorem dX12_put_99 : decode cX12_put 99 = .ok (.return_, 1) := by decide +kernel
set_option maxRecDepth 100000 in
set_option maxHeartbeats 1000000 in
theorem j_X12_put_57 {p : Program} {l : Launch} {e : Env} {s : State} {m : MethodId} {args : Array Value} {below : List Frame} {meth : Method} {c : Code} {D : va_G} {aC : Nat → ClassId} {b0 fu : Nat} {σ0 τ : tM} {v : Unit}  (C : tCx p l s m args meth c yX12_put.cls cX12_put 3 none D aC b0 σ0) (htab : ∀ x ∈ c.exceptionTable.toList, False) (hin : meth.name = yX12_put.name)  {x0 : Nat} {x1 : Int32} {x2 : Int32} {σ : tM} (hm : J_X12_put_57 b0 fu  x0 x1 x2 σ = some (v, τ)) : tX p l e s m args below meth c 3 2 48 D aC b0 σ0 (.inl none) τ 57 [(0, .ref (x0)), (1, .int (x1)), (2, .int (x2))] [] σ := by
  unfold J_X12_put_57 at hm
  refine zx_aload_n C dX12_put_57 0 rfl ?_
  obtain ⟨k16, i17, hm⟩ := ckO_e hm
  obtain ⟨a18, h19, hm⟩ := osm_e hm
  refine zx_get (j := 2) C tC_11 k16 i17 ⟨by decide, Or.inl W_6_222⟩ dX12_put_58 (.ref a18) (rf_s h19) ?_
  refine zx_aload_n C dX12_put_61 0 rfl ?_
  refine zx_get (j := 4) C tC_11 k16 i17 ⟨by decide, Or.inl W_6_224⟩ dX12_put_62 (.int (tI (σ) (x0) 4)) rfl ?_
  refine zx_iload_n C dX12_put_65 1 rfl ?_
  obtain ⟨n22, k20, i21, hm⟩ := ckR_e hm
  obtain ⟨h23, hm⟩ := ckI_e hm
  refine zx_iast C k20 i21 h23 dX12_put_66 ?_
  refine zx_aload_n C dX12_put_67 0 rfl ?_
  obtain ⟨a24, h25, hm⟩ := osm_e hm
  refine zx_get (j := 3) C tC_11 k16 i17 ⟨by decide, Or.inl W_6_223⟩ dX12_put_68 (.ref a24) (rf_s h25) ?_
  refine zx_aload_n C dX12_put_71 0 rfl ?_
  refine zx_get (j := 4) C tC_11 k16 i17 ⟨by decide, Or.inl W_6_224⟩ dX12_put_72 (.int (tI (sI (σ) (a18) ((tI (σ) (x0) 4).toNatClampNeg) (x1)) (x0) 4)) rfl ?_
  refine zx_aload_n C dX12_put_75 0 rfl ?_
  obtain ⟨a26, h27, hm⟩ := osm_e hm
  refine zx_get (j := 1) C tC_11 k16 i17 ⟨by decide, Or.inl W_6_221⟩ dX12_put_76 (.ref a26) (rf_s h27) ?_
  refine zx_iload_n C dX12_put_79 1 rfl ?_
  obtain ⟨n30, k28, i29, hm⟩ := ckR_e hm
  obtain ⟨h31, hm⟩ := ckI_e hm
  refine zx_iald C k28 i29 h31 dX12_put_80 ?_
  obtain ⟨n34, k32, i33, hm⟩ := ckR_e hm
  obtain ⟨h35, hm⟩ := ckI_e hm
  refine zx_iast C k32 i33 h35 dX12_put_81 ?_
  refine zx_aload_n C dX12_put_82 0 rfl ?_
  refine zx_dup C dX12_put_83 rfl ?_
  refine zx_get (j := 4) C tC_11 k16 i17 ⟨by decide, Or.inl W_6_224⟩ dX12_put_84 (.int (tI (sI (sI (σ) (a18) ((tI (σ) (x0) 4).toNatClampNeg) (x1)) (a24) ((tI (sI (σ) (a18) ((tI (σ) (x0) 4).toNatClampNeg) (x1)) (x0) 4).toNatClampNeg) (tI (sI (σ) (a18) ((tI (σ) (x0) 4).toNatClampNeg) (x1)) (a26) ((x1).toNatClampNeg))) (x0) 4)) rfl ?_
  refine zx_iconst (v := 1) C dX12_put_87 (by decide) ?_
  refine zx_iadd C dX12_put_88 ?_
  refine zx_put (j := 4) (ρ := sI (sI (sI (σ) (a18) ((tI (σ) (x0) 4).toNatClampNeg) (x1)) (a24) ((tI (sI (σ) (a18) ((tI (σ) (x0) 4).toNatClampNeg) (x1)) (x0) 4).toNatClampNeg) (tI (sI (σ) (a18) ((tI (σ) (x0) 4).toNatClampNeg) (x1)) (a26) ((x1).toNatClampNeg))) (x0) 4 ((tI (sI (sI (σ) (a18) ((tI (σ) (x0) 4).toNatClampNeg) (x1)) (a24) ((tI (sI (σ) (a18) ((tI (σ) (x0) 4).toNatClampNeg) (x1)) (x0) 4).toNatClampNeg) (tI (sI (σ) (a18) ((tI (σ) (x0) 4).toNatClampNeg) (x1)) (a26) ((x1).toNatClampNeg))) (x0) 4) + (1))) C tC_11 k16 i17 ⟨by decide, Or.inl W_6_224⟩ rfl rfl rfl (sI_ok (fun _ => rfl)) dX12_put_89 ?_
  refine zx_mem (fun ρ36 hρ36 => ?_)
  replace hm := ltb_e hm hρ36
  have k37 : tk ρ36 (x0) = .inl 11 := by rw [hρ36]; exact k16
  have i38 : tIn b0 ρ36 (x0) := by rw [hρ36]; exact i17
  have k39 : tk ρ36 (a18) = .inr (0, n22) := by rw [hρ36]; exact k20
  have i40 : tIn b0 ρ36 (a18) := by rw [hρ36]; exact i21
  have k41 : tk ρ36 (a26) = .inr (0, n30) := by rw [hρ36]; exact k28
  have i42 : tIn b0 ρ36 (a26) := by rw [hρ36]; exact i29
  have k43 : tk ρ36 (a24) = .inr (0, n34) := by rw [hρ36]; exact k32
  have i44 : tIn b0 ρ36 (a24) := by rw [hρ36]; exact i33
  refine zx_aload_n C dX12_put_92 0 rfl ?_
  obtain ⟨a45, h46, hm⟩ := osm_e hm
  refine zx_get (j := 1) C tC_11 k37 i38 ⟨by decide, Or.inl W_6_221⟩ dX12_put_93 (.ref a45) (rf_s h46) ?_
  refine zx_iload_n C dX12_put_96 1 rfl ?_
  refine zx_iload_n C dX12_put_97 2 rfl ?_
  obtain ⟨n49, k47, i48, hm⟩ := ckR_e hm
  obtain ⟨h50, hm⟩ := ckI_e hm
  refine zx_iast C k47 i48 h50 dX12_put_98 ?_
  obtain ⟨rfl, rfl⟩ := ret_e hm
  exact zx_vret C rfl rfl rfl dX12_put_99
set_option maxRecDepth 100000 in
set_option maxHeartbeats 1000000 in
theorem c_X12_put {l : Launch} {D : va_G} {aC : Nat → ClassId} {b0 fu : Nat} {a0 : Nat} {p0 : Int32} {p1 : Int32} {σ τ : tM} {v : Unit} (hm : m_X12_put b0 fu a0 p0 p1 σ = some (v, τ)) : tMt l D aC b0 yX12_put (Cond.code yX12_put cX12_put 3 none) 2 48 [.ref (a0), .int (p0), .int (p1)] σ (.inl none) τ := by
  unfold m_X12_put at hm
  obtain ⟨hg, hm⟩ := grw_e hm
  refine tMt_of (n := 0) rfl (Nat.le_of_ble_eq_true rfl) hg ?_
  intro p e s m below meth c C htab hin
  refine zx_lv [0, 1, 2] [(0, .ref (a0)), (1, .int (p0)), (2, .int (p1))] rfl ?_
  refine zx_aload_n C dX12_put_0 0 rfl ?_
  obtain ⟨k1, i2, hm⟩ := ckO_e hm
  obtain ⟨a3, h4, hm⟩ := osm_e hm
  refine zx_get (j := 1) C tC_11 k1 i2 ⟨by decide, Or.inl W_6_221⟩ dX12_put_1 (.ref a3) (rf_s h4) ?_
  refine zx_iload_n C dX12_put_4 1 rfl ?_
  obtain ⟨n7, k5, i6, hm⟩ := ckR_e hm
  obtain ⟨h8, hm⟩ := ckI_e hm
  refine zx_iald C k5 i6 h8 dX12_put_5 ?_
  refine zx_iload_n C dX12_put_6 2 rfl ?_
  refine zx_icmp_ne C 11 dX12_put_7 (by decide) (fun c9 => ?_) (fun c9 => ?_)
  · replace hm := in_e hm c9
    refine zx_aload_n C dX12_put_11 0 rfl ?_
    refine zx_get (j := 4) C tC_11 k1 i2 ⟨by decide, Or.inl W_6_224⟩ dX12_put_12 (.int (tI (σ) (a0) 4)) rfl ?_
    refine zx_aload_n C dX12_put_15 0 rfl ?_
    obtain ⟨a10, h11, hm⟩ := osm_e hm
    refine zx_get (j := 2) C tC_11 k1 i2 ⟨by decide, Or.inl W_6_222⟩ dX12_put_16 (.ref a10) (rf_s h11) ?_
    obtain ⟨n14, k12, i13, hm⟩ := ckR_e hm
    refine zx_alen C k12 (by decide) i13 dX12_put_19 ?_
    refine zx_icmp_ne C 57 dX12_put_20 (by decide) (fun c15 => ?_) (fun c15 => ?_)
    · replace hm := in_e hm c15
      exact zx_lv [0, 1, 2] [(0, .ref (a0)), (1, .int (p0)), (2, .int (p1))] rfl (j_X12_put_57 C htab hin    hm)
    · replace hm := ip_e hm c15
      refine zx_aload_n C dX12_put_23 0 rfl ?_
      refine zx_aload_n C dX12_put_24 0 rfl ?_
      obtain ⟨a51, h52, hm⟩ := osm_e hm
      refine zx_get (j := 2) C tC_11 k1 i2 ⟨by decide, Or.inl W_6_222⟩ dX12_put_25 (.ref a51) (rf_s h52) ?_
      refine zx_iconst (v := 2) C dX12_put_28 (by decide) ?_
      refine zx_aload_n C dX12_put_29 0 rfl ?_
      refine zx_get (j := 4) C tC_11 k1 i2 ⟨by decide, Or.inl W_6_224⟩ dX12_put_30 (.int (tI (σ) (a0) 4)) rfl ?_
      refine zx_imul C dX12_put_33 ?_
      obtain ⟨v53, ρ54, h55, hm⟩ := cll_e hm
      obtain ⟨a56, h57, hm⟩ := osm_e hm
      subst h57
      refine zx_callS (σ := σ) C [.ref (a51), .int ((2) * (tI (σ) (a0) 4))] Y_X12_longer W_8_13 W_8_14 (c_X12_longer h55) (by decide) (by decide) rfl (Nat.le_of_ble_eq_true rfl) dX12_put_34 rfl ?_
      obtain ⟨k58, i59, hm⟩ := ckO_e hm
      refine zx_put (j := 2) (ρ := sA (ρ54) (a0) 2 (some (a56))) C tC_11 k58 i59 ⟨by decide, Or.inl W_6_222⟩ rfl rfl rfl (sA_ok (fun _ => rfl)) dX12_put_37 ?_
      refine zx_aload_n C dX12_put_40 0 rfl ?_
      refine zx_aload_n C dX12_put_41 0 rfl ?_
      obtain ⟨a60, h61, hm⟩ := osm_e hm
      refine zx_get (j := 3) C tC_11 k58 i59 ⟨by decide, Or.inl W_6_223⟩ dX12_put_42 (.ref a60) (rf_s h61) ?_
      refine zx_iconst (v := 2) C dX12_put_45 (by decide) ?_
      refine zx_aload_n C dX12_put_46 0 rfl ?_
      refine zx_get (j := 4) C tC_11 k58 i59 ⟨by decide, Or.inl W_6_224⟩ dX12_put_47 (.int (tI (sA (ρ54) (a0) 2 (some (a56))) (a0) 4)) rfl ?_
      refine zx_imul C dX12_put_50 ?_
      obtain ⟨v62, ρ63, h64, hm⟩ := cll_e hm
      obtain ⟨a65, h66, hm⟩ := osm_e hm
      subst h66
      refine zx_callS (σ := sA (ρ54) (a0) 2 (some (a56))) C [.ref (a60), .int ((2) * (tI (sA (ρ54) (a0) 2 (some (a56))) (a0) 4))] Y_X12_longer W_8_13 W_8_14 (c_X12_longer h64) (by decide) (by decide) rfl (Nat.le_of_ble_eq_true rfl) dX12_put_51 rfl ?_
      obtain ⟨k67, i68, hm⟩ := ckO_e hm
      refine zx_put (j := 3) (ρ := sA (ρ63) (a0) 3 (some (a65))) C tC_11 k67 i68 ⟨by decide, Or.inl W_6_223⟩ rfl rfl rfl (sA_ok (fun _ => rfl)) dX12_put_54 ?_
      exact zx_lv [0, 1, 2] [(0, .ref (a0)), (1, .int (p0)), (2, .int (p1))] rfl (j_X12_put_57 C htab hin    hm)
  · replace hm := ip_e hm c9
    obtain ⟨rfl, rfl⟩ := ret_e hm
    exact zx_vret C rfl rfl rfl dX12_put_10
abbrev cX12_node : ByteArray := prog_13_method_4_code
def yX12_node : MethodName := ⟨"SyncTreeModel", "node", "(II)I"⟩
theorem Y_X12_node : tY yX12_node cX12_node 3 (some .int) 2 := ⟨W_8_43, W_1_14, ⟨by decide +kernel, by decide +kernel⟩, by decide +kernel⟩
theorem dX12_node_0 : decode cX12_node 0 = .ok (.aload_n 0, 1) := by decide +kernel
theorem dX12_node_1 : decode cX12_node 1 = .ok (.getfield 13, 3) := by decide +kernel
theorem dX12_node_4 : decode cX12_node 4 = .ok (.iload_n 1, 1) := by decide +kernel
theorem dX12_node_5 : decode cX12_node 5 = .ok (.bipush 95, 2) := by decide +kernel
theorem dX12_node_7 : decode cX12_node 7 = .ok (.imul, 1) := by decide +kernel
theorem dX12_node_8 : decode cX12_node 8 = .ok (.iload_n 2, 1) := by decide +kernel
theorem dX12_node_9 : decode cX12_node 9 = .ok (.iadd, 1) := by decide +kernel
theorem dX12_node_10 : decode cX12_node 10 = .ok (.iaload, 1) := by decide +kernel
theorem dX12_node_11 : decode cX12_node 11 = .ok (.ireturn, 1) := by decide +kernel
set_option maxRecDepth 100000 in
set_option maxHeartbeats 1000000 in
theorem c_X12_node {l : Launch} {D : va_G} {aC : Nat → ClassId} {b0 fu : Nat} {a0 : Nat} {p0 : Int32} {p1 : Int32} {σ τ : tM} {v : Int32} (hm : m_X12_node b0 fu a0 p0 p1 σ = some (v, τ)) : tMt l D aC b0 yX12_node (Cond.code yX12_node cX12_node 3 (some .int)) 0 0 [.ref (a0), .int (p0), .int (p1)] σ (.inl (some (.int v))) τ := by
  unfold m_X12_node at hm
  obtain ⟨hg, hm⟩ := grw_e hm
  refine tMt_of (n := 0) rfl (Nat.le_of_ble_eq_true rfl) hg ?_
  intro p e s m below meth c C htab hin
  refine zx_lv [0, 1, 2] [(0, .ref (a0)), (1, .int (p0)), (2, .int (p1))] rfl ?_
  refine zx_aload_n C dX12_node_0 0 rfl ?_
  obtain ⟨k1, i2, hm⟩ := ckO_e hm
  obtain ⟨a3, h4, hm⟩ := osm_e hm
  refine zx_get (j := 1) C tC_11 k1 i2 ⟨by decide, Or.inl W_6_221⟩ dX12_node_1 (.ref a3) (rf_s h4) ?_
  refine zx_iload_n C dX12_node_4 1 rfl ?_
  refine zx_bipush (v := 95) C dX12_node_5 (by decide) ?_
  refine zx_imul C dX12_node_7 ?_
  refine zx_iload_n C dX12_node_8 2 rfl ?_
  refine zx_iadd C dX12_node_9 ?_
  obtain ⟨n7, k5, i6, hm⟩ := ckR_e hm
  obtain ⟨h8, hm⟩ := ckI_e hm
  refine zx_iald C k5 i6 h8 dX12_node_10 ?_
  obtain ⟨rfl, rfl⟩ := ret_e hm
  exact zx_iret C rfl rfl rfl dX12_node_11
abbrev cX12_room : ByteArray := prog_13_method_6_code
def yX12_room : MethodName := ⟨"SyncTreeModel", "room", "(II)I"⟩
theorem Y_X12_room : tY yX12_room cX12_room 2 (some .int) 2 := ⟨W_6_211, W_1_14, ⟨by decide +kernel, by decide +kernel⟩, by decide +kernel⟩
theorem dX12_room_0 : decode cX12_room 0 = .ok (.sipush 6080, 3) := by decide +kernel
theorem dX12_room_3 : decode cX12_room 3 = .ok (.iload_n 0, 1) := by decide +kernel
theorem dX12_room_4 : decode cX12_room 4 = .ok (.sipush 274, 3) := by decide +kernel
theorem dX12_room_7 : decode cX12_room 7 = .ok (.imul, 1) := by decide +kernel
theorem dX12_room_8 : decode cX12_room 8 = .ok (.iadd, 1) := by decide +kernel
theorem dX12_room_9 : decode cX12_room 9 = .ok (.iload_n 1, 1) := by decide +kernel
theorem dX12_room_10 : decode cX12_room 10 = .ok (.iadd, 1) := by decide +kernel
theorem dX12_room_11 : decode cX12_room 11 = .ok (.ireturn, 1) := by decide +kernel
set_option maxRecDepth 100000 in
set_option maxHeartbeats 1000000 in
theorem c_X12_room {l : Launch} {D : va_G} {aC : Nat → ClassId} {b0 fu : Nat} {p0 : Int32} {p1 : Int32} {σ τ : tM} {v : Int32} (hm : m_X12_room b0 fu p0 p1 σ = some (v, τ)) : tMt l D aC b0 yX12_room (Cond.code yX12_room cX12_room 2 (some .int)) 0 0 [.int (p0), .int (p1)] σ (.inl (some (.int v))) τ := by
  unfold m_X12_room at hm
  obtain ⟨hg, hm⟩ := grw_e hm
  refine tMt_of (n := 0) rfl (Nat.le_of_ble_eq_true rfl) hg ?_
  intro p e s m below meth c C htab hin
  refine zx_lv [0, 1] [(0, .int (p0)), (1, .int (p1))] rfl ?_
  refine zx_sipush (v := 6080) C dX12_room_0 (by decide) ?_
  refine zx_iload_n C dX12_room_3 0 rfl ?_
  refine zx_sipush (v := 274) C dX12_room_4 (by decide) ?_
  refine zx_imul C dX12_room_7 ?_
  refine zx_iadd C dX12_room_8 ?_
  refine zx_iload_n C dX12_room_9 1 rfl ?_
  refine zx_iadd C dX12_room_10 ?_
  obtain ⟨rfl, rfl⟩ := ret_e hm
  exact zx_iret C rfl rfl rfl dX12_room_11
abbrev cX12_blocks : ByteArray := prog_13_method_7_code
def yX12_blocks : MethodName := ⟨"SyncTreeModel", "blocks", "()I"⟩
theorem Y_X12_blocks : tY yX12_blocks cX12_blocks 1 (some .int) 0 := ⟨W_6_219, W_1_14, ⟨by decide +kernel, by decide +kernel⟩, by decide +kernel⟩
theorem dX12_blocks_0 : decode cX12_blocks 0 = .ok (.bipush 34, 2) := by decide +kernel
theorem dX12_blocks_2 : decode cX12_blocks 2 = .ok (.aload_n 0, 1) := by decide +kernel
theorem dX12_blocks_3 : decode cX12_blocks 3 = .ok (.getfield 38, 3) := by decide +kernel
theorem dX12_blocks_6 : decode cX12_blocks 6 = .ok (.iadd, 1) := by decide +kernel
theorem dX12_blocks_7 : decode cX12_blocks 7 = .ok (.aload_n 0, 1) := by decide +kernel
theorem dX12_blocks_8 : decode cX12_blocks 8 = .ok (.getfield 41, 3) := by decide +kernel
theorem dX12_blocks_11 : decode cX12_blocks 11 = .ok (.iadd, 1) := by decide +kernel
theorem dX12_blocks_12 : decode cX12_blocks 12 = .ok (.ireturn, 1) := by decide +kernel
set_option maxRecDepth 100000 in
set_option maxHeartbeats 1000000 in
theorem c_X12_blocks {l : Launch} {D : va_G} {aC : Nat → ClassId} {b0 fu : Nat} {a0 : Nat} {σ τ : tM} {v : Int32} (hm : m_X12_blocks b0 fu a0 σ = some (v, τ)) : tMt l D aC b0 yX12_blocks (Cond.code yX12_blocks cX12_blocks 1 (some .int)) 0 0 [.ref (a0)] σ (.inl (some (.int v))) τ := by
  unfold m_X12_blocks at hm
  obtain ⟨hg, hm⟩ := grw_e hm
  refine tMt_of (n := 0) rfl (Nat.le_of_ble_eq_true rfl) hg ?_
  intro p e s m below meth c C htab hin
  refine zx_lv [0] [(0, .ref (a0))] rfl ?_
  refine zx_bipush (v := 34) C dX12_blocks_0 (by decide) ?_
  refine zx_aload_n C dX12_blocks_2 0 rfl ?_
  obtain ⟨k1, i2, hm⟩ := ckO_e hm
  refine zx_get (j := 6) C tC_11 k1 i2 ⟨by decide, Or.inl W_6_225⟩ dX12_blocks_3 (.int (tI (σ) (a0) 6)) rfl ?_
  refine zx_iadd C dX12_blocks_6 ?_
  refine zx_aload_n C dX12_blocks_7 0 rfl ?_
  refine zx_get (j := 7) C tC_11 k1 i2 ⟨by decide, Or.inl W_6_226⟩ dX12_blocks_8 (.int (tI (σ) (a0) 7)) rfl ?_
  refine zx_iadd C dX12_blocks_11 ?_
  obtain ⟨rfl, rfl⟩ := ret_e hm
  exact zx_iret C rfl rfl rfl dX12_blocks_12
abbrev cX12_numberOf : ByteArray := prog_13_method_8_code
def yX12_numberOf : MethodName := ⟨"SyncTreeModel", "numberOf", "(I)I"⟩
theorem Y_X12_numberOf : tY yX12_numberOf cX12_numberOf 2 (some .int) 1 := ⟨W_8_126, W_1_14, ⟨by decide +kernel, by decide +kernel⟩, by decide +kernel⟩
theorem dX12_numberOf_0 : decode cX12_numberOf 0 = .ok (.bipush 34, 2) := by decide +kernel
theorem dX12_numberOf_2 : decode cX12_numberOf 2 = .ok (.aload_n 0, 1) := by decide +kernel
theorem dX12_numberOf_3 : decode cX12_numberOf 3 = .ok (.getfield 38, 3) := by decide +kernel
theorem dX12_numberOf_6 : decode cX12_numberOf 6 = .ok (.iadd, 1) := by decide +kernel
theorem dX12_numberOf_7 : decode cX12_numberOf 7 = .ok (.iload_n 1, 1) := by decide +kernel
theorem dX12_numberOf_8 : decode cX12_numberOf 8 = .ok (.iadd, 1) := by decide +kernel
theorem dX12_numberOf_9 : decode cX12_numberOf 9 = .ok (.ireturn, 1) := by decide +kernel
set_option maxRecDepth 100000 in
set_option maxHeartbeats 1000000 in
theorem c_X12_numberOf {l : Launch} {D : va_G} {aC : Nat → ClassId} {b0 fu : Nat} {a0 : Nat} {p0 : Int32} {σ τ : tM} {v : Int32} (hm : m_X12_numberOf b0 fu a0 p0 σ = some (v, τ)) : tMt l D aC b0 yX12_numberOf (Cond.code yX12_numberOf cX12_numberOf 2 (some .int)) 0 0 [.ref (a0), .int (p0)] σ (.inl (some (.int v))) τ := by
  unfold m_X12_numberOf at hm
  obtain ⟨hg, hm⟩ := grw_e hm
  refine tMt_of (n := 0) rfl (Nat.le_of_ble_eq_true rfl) hg ?_
  intro p e s m below meth c C htab hin
  refine zx_lv [0, 1] [(0, .ref (a0)), (1, .int (p0))] rfl ?_
  refine zx_bipush (v := 34) C dX12_numberOf_0 (by decide) ?_
  refine zx_aload_n C dX12_numberOf_2 0 rfl ?_
  obtain ⟨k1, i2, hm⟩ := ckO_e hm
  refine zx_get (j := 6) C tC_11 k1 i2 ⟨by decide, Or.inl W_6_225⟩ dX12_numberOf_3 (.int (tI (σ) (a0) 6)) rfl ?_
  refine zx_iadd C dX12_numberOf_6 ?_
  refine zx_iload_n C dX12_numberOf_7 1 rfl ?_
  refine zx_iadd C dX12_numberOf_8 ?_
  obtain ⟨rfl, rfl⟩ := ret_e hm
  exact zx_iret C rfl rfl rfl dX12_numberOf_9
abbrev cX12_powerOff : ByteArray := prog_13_method_10_code
def yX12_powerOff : MethodName := ⟨"SyncTreeModel", "powerOff", "()V"⟩
theorem Y_X12_powerOff : tY yX12_powerOff cX12_powerOff 2 none 0 := ⟨W_7_223, W_1_14, ⟨by decide +kernel, by decide +kernel⟩, by decide +kernel⟩
theorem dX12_powerOff_0 : decode cX12_powerOff 0 = .ok (.aload_n 0, 1) := by decide +kernel
theorem dX12_powerOff_1 : decode cX12_powerOff 1 = .ok (.iconst 0, 1) := by decide +kernel
theorem dX12_powerOff_2 : decode cX12_powerOff 2 = .ok (.putfield 58, 3) := by decide +kernel
theorem dX12_powerOff_5 : decode cX12_powerOff 5 = .ok (.aload_n 0, 1) := by decide +kernel
theorem dX12_powerOff_6 : decode cX12_powerOff 6 = .ok (.iconst (-1), 1) := by decide +kernel
theorem dX12_powerOff_7 : decode cX12_powerOff 7 = .ok (.putfield 44, 3) := by decide +kernel
theorem dX12_powerOff_10 : decode cX12_powerOff 10 = .ok (.iconst 0, 1) := by decide +kernel
theorem dX12_powerOff_11 : decode cX12_powerOff 11 = .ok (.istore_n 1, 1) := by decide +kernel
theorem dX12_powerOff_12 : decode cX12_powerOff 12 = .ok (.iload_n 1, 1) := by decide +kernel
theorem dX12_powerOff_13 : decode cX12_powerOff 13 = .ok (.aload_n 0, 1) := by decide +kernel
theorem dX12_powerOff_14 : decode cX12_powerOff 14 = .ok (.getfield 62, 3) := by decide +kernel
theorem dX12_powerOff_17 : decode cX12_powerOff 17 = .ok (.arraylength, 1) := by decide +kernel
theorem dX12_powerOff_18 : decode cX12_powerOff 18 = .ok (.if_icmp .ge 16, 3) := by decide +kernel
theorem dX12_powerOff_21 : decode cX12_powerOff 21 = .ok (.aload_n 0, 1) := by decide +kernel
theorem dX12_powerOff_22 : decode cX12_powerOff 22 = .ok (.getfield 62, 3) := by decide +kernel
theorem dX12_powerOff_25 : decode cX12_powerOff 25 = .ok (.iload_n 1, 1) := by decide +kernel
theorem dX12_powerOff_26 : decode cX12_powerOff 26 = .ok (.iconst 0, 1) := by decide +kernel
theorem dX12_powerOff_27 : decode cX12_powerOff 27 = .ok (.iastore, 1) := by decide +kernel
theorem dX12_powerOff_28 : decode cX12_powerOff 28 = .ok (.iinc 1 1, 3) := by decide +kernel
theorem dX12_powerOff_31 : decode cX12_powerOff 31 = .ok (.goto (-19), 3) := by decide +kernel
theorem dX12_powerOff_34 : decode cX12_powerOff 34 = .ok (.return_, 1) := by decide +kernel
set_option maxRecDepth 100000 in
set_option maxHeartbeats 1000000 in
theorem l_X12_powerOff_12 {p : Program} {l : Launch} {e : Env} {s : State} {m : MethodId} {args : Array Value} {below : List Frame} {meth : Method} {c : Code} {D : va_G} {aC : Nat → ClassId} {b0 fu : Nat} {σ0 τ : tM} {v : Unit}  (C : tCx p l s m args meth c yX12_powerOff.cls cX12_powerOff 2 none D aC b0 σ0) (htab : ∀ x ∈ c.exceptionTable.toList, False) (hin : meth.name = yX12_powerOff.name)  : ∀ (n : Nat) (x0 : Nat) (x1 : Int32) (σ : tM), L_X12_powerOff_12 b0 fu  n x0 x1 σ = some (v, τ) → tX p l e s m args below meth c 2 0 0 D aC b0 σ0 (.inl none) τ 12 [(0, .ref (x0)), (1, .int (x1))] [] σ := by
  intro n
  induction n with
  | zero => intro x0 x1 σ hm; unfold L_X12_powerOff_12 at hm; cases hm
  | succ n ih =>
    intro x0 x1 σ hm
    unfold L_X12_powerOff_12 at hm
    obtain ⟨rc12, hrc⟩ : ∃ z, z = L_X12_powerOff_12 b0 fu  n := ⟨_, rfl⟩
    replace hm := ltb_e hm hrc
    rw [← hrc] at ih
    have hrc12 := ih
    clear ih hrc
    refine zx_iload_n C dX12_powerOff_12 1 rfl ?_
    refine zx_aload_n C dX12_powerOff_13 0 rfl ?_
    obtain ⟨k3, i4, hm⟩ := ckO_e hm
    obtain ⟨a5, h6, hm⟩ := osm_e hm
    refine zx_get (j := 17) C tC_11 k3 i4 ⟨by decide, Or.inl W_6_236⟩ dX12_powerOff_14 (.ref a5) (rf_s h6) ?_
    obtain ⟨n9, k7, i8, hm⟩ := ckR_e hm
    refine zx_alen C k7 (by decide) i8 dX12_powerOff_17 ?_
    refine zx_icmp_ge C 34 dX12_powerOff_18 (by decide) (fun c10 => ?_) (fun c10 => ?_)
    · replace hm := ip_e hm c10
      obtain ⟨rfl, rfl⟩ := ret_e hm
      exact zx_vret C rfl rfl rfl dX12_powerOff_34
    · replace hm := in_e hm c10
      refine zx_aload_n C dX12_powerOff_21 0 rfl ?_
      obtain ⟨a11, h12, hm⟩ := osm_e hm
      refine zx_get (j := 17) C tC_11 k3 i4 ⟨by decide, Or.inl W_6_236⟩ dX12_powerOff_22 (.ref a11) (rf_s h12) ?_
      refine zx_iload_n C dX12_powerOff_25 1 rfl ?_
      refine zx_iconst (v := 0) C dX12_powerOff_26 (by decide) ?_
      obtain ⟨n15, k13, i14, hm⟩ := ckR_e hm
      obtain ⟨h16, hm⟩ := ckI_e hm
      refine zx_iast C k13 i14 h16 dX12_powerOff_27 ?_
      obtain ⟨y17, hy17⟩ : ∃ z : Int32, z = (x1) + Int32.ofInt 1 := ⟨_, rfl⟩
      replace hm := ltb_e hm hy17
      refine zx_iinc C [(1, .int (y17)), (0, .ref (x0))] dX12_powerOff_28 1 rfl hy17.symm (by decide) rfl ?_
      refine zx_goto C 12 dX12_powerOff_31 (by decide) ?_
      exact zx_lv [1, 0] [(0, .ref (x0)), (1, .int (y17))] rfl (hrc12 _ _ _ hm)
set_option maxRecDepth 100000 in
set_option maxHeartbeats 1000000 in
theorem c_X12_powerOff {l : Launch} {D : va_G} {aC : Nat → ClassId} {b0 fu : Nat} {a0 : Nat} {σ τ : tM} {v : Unit} (hm : m_X12_powerOff b0 fu a0 σ = some (v, τ)) : tMt l D aC b0 yX12_powerOff (Cond.code yX12_powerOff cX12_powerOff 2 none) 0 0 [.ref (a0)] σ (.inl none) τ := by
  unfold m_X12_powerOff at hm
  obtain ⟨hg, hm⟩ := grw_e hm
  refine tMt_of (n := 0) rfl (Nat.le_of_ble_eq_true rfl) hg ?_
  intro p e s m below meth c C htab hin
  refine zx_lv [0] [(0, .ref (a0))] rfl ?_
  refine zx_aload_n C dX12_powerOff_0 0 rfl ?_
  refine zx_iconst (v := 0) C dX12_powerOff_1 (by decide) ?_
  obtain ⟨k1, i2, hm⟩ := ckO_e hm
  refine zx_put (j := 18) (ρ := sI (σ) (a0) 18 (0)) C tC_11 k1 i2 ⟨by decide, Or.inl W_6_237⟩ rfl rfl rfl (sI_ok (fun _ => rfl)) dX12_powerOff_2 ?_
  refine zx_aload_n C dX12_powerOff_5 0 rfl ?_
  refine zx_iconst (v := (-1)) C dX12_powerOff_6 (by decide) ?_
  refine zx_put (j := 19) (ρ := sI (sI (σ) (a0) 18 (0)) (a0) 19 ((-1))) C tC_11 k1 i2 ⟨by decide, Or.inl W_6_238⟩ rfl rfl rfl (sI_ok (fun _ => rfl)) dX12_powerOff_7 ?_
  refine zx_iconst (v := 0) C dX12_powerOff_10 (by decide) ?_
  refine zx_istore_n C [(1, .int (0)), (0, .ref (a0))] dX12_powerOff_11 rfl (by decide) rfl ?_
  exact zx_lv [1, 0] [(0, .ref (a0)), (1, .int (0))] rfl (l_X12_powerOff_12 C htab hin  _ _ _ _ hm)
abbrev cX12_keep : ByteArray := prog_13_method_11_code
def yX12_keep : MethodName := ⟨"SyncTreeModel", "keep", "(I)V"⟩
theorem Y_X12_keep : tY yX12_keep cX12_keep 3 none 1 := ⟨W_7_231, W_1_14, ⟨by decide +kernel, by decide +kernel⟩, by decide +kernel⟩
theorem dX12_keep_0 : decode cX12_keep 0 = .ok (.aload_n 0, 1) := by decide +kernel
theorem dX12_keep_1 : decode cX12_keep 1 = .ok (.getfield 65, 3) := by decide +kernel
theorem dX12_keep_4 : decode cX12_keep 4 = .ok (.iload_n 1, 1) := by decide +kernel
theorem dX12_keep_5 : decode cX12_keep 5 = .ok (.iaload, 1) := by decide +kernel
theorem dX12_keep_6 : decode cX12_keep 6 = .ok (.istore_n 2, 1) := by decide +kernel
theorem dX12_keep_7 : decode cX12_keep 7 = .ok (.aload_n 0, 1) := by decide +kernel
theorem dX12_keep_8 : decode cX12_keep 8 = .ok (.getfield 68, 3) := by decide +kernel
theorem dX12_keep_11 : decode cX12_keep 11 = .ok (.iload_n 2, 1) := by decide +kernel
theorem dX12_keep_12 : decode cX12_keep 12 = .ok (.aload_n 0, 1) := by decide +kernel
theorem dX12_keep_13 : decode cX12_keep 13 = .ok (.getfield 71, 3) := by decide +kernel
theorem dX12_keep_16 : decode cX12_keep 16 = .ok (.iload_n 1, 1) := by decide +kernel
theorem dX12_keep_17 : decode cX12_keep 17 = .ok (.iaload, 1) := by decide +kernel
theorem dX12_keep_18 : decode cX12_keep 18 = .ok (.iastore, 1) := by decide +kernel
theorem dX12_keep_19 : decode cX12_keep 19 = .ok (.aload_n 0, 1) := by decide +kernel
theorem dX12_keep_20 : decode cX12_keep 20 = .ok (.getfield 74, 3) := by decide +kernel
theorem dX12_keep_23 : decode cX12_keep 23 = .ok (.iload_n 2, 1) := by decide +kernel
theorem dX12_keep_24 : decode cX12_keep 24 = .ok (.aload_n 0, 1) := by decide +kernel
theorem dX12_keep_25 : decode cX12_keep 25 = .ok (.getfield 77, 3) := by decide +kernel
theorem dX12_keep_28 : decode cX12_keep 28 = .ok (.iload_n 1, 1) := by decide +kernel
theorem dX12_keep_29 : decode cX12_keep 29 = .ok (.iaload, 1) := by decide +kernel
theorem dX12_keep_30 : decode cX12_keep 30 = .ok (.iastore, 1) := by decide +kernel
theorem dX12_keep_31 : decode cX12_keep 31 = .ok (.aload_n 0, 1) := by decide +kernel
theorem dX12_keep_32 : decode cX12_keep 32 = .ok (.getfield 71, 3) := by decide +kernel
theorem dX12_keep_35 : decode cX12_keep 35 = .ok (.iload_n 1, 1) := by decide +kernel
theorem dX12_keep_36 : decode cX12_keep 36 = .ok (.iaload, 1) := by decide +kernel
theorem dX12_keep_37 : decode cX12_keep 37 = .ok (.iconst 3, 1) := by decide +kernel
theorem dX12_keep_38 : decode cX12_keep 38 = .ok (.if_icmp .ne 35, 3) := by decide +kernel
theorem dX12_keep_41 : decode cX12_keep 41 = .ok (.aload_n 0, 1) := by decide +kernel
theorem dX12_keep_42 : decode cX12_keep 42 = .ok (.getfield 80, 3) := by decide +kernel
theorem dX12_keep_45 : decode cX12_keep 45 = .ok (.sipush 256, 3) := by decide +kernel
theorem dX12_keep_48 : decode cX12_keep 48 = .ok (.iload_n 1, 1) := by decide +kernel
theorem dX12_keep_49 : decode cX12_keep 49 = .ok (.imul, 1) := by decide +kernel
theorem dX12_keep_50 : decode cX12_keep 50 = .ok (.aload_n 0, 1) := by decide +kernel
theorem dX12_keep_51 : decode cX12_keep 51 = .ok (.getfield 84, 3) := by decide +kernel
theorem dX12_keep_54 : decode cX12_keep 54 = .ok (.sipush 256, 3) := by decide +kernel
theorem dX12_keep_57 : decode cX12_keep 57 = .ok (.iload_n 2, 1) := by decide +kernel
theorem dX12_keep_58 : decode cX12_keep 58 = .ok (.bipush 34, 2) := by decide +kernel
theorem dX12_keep_60 : decode cX12_keep 60 = .ok (.isub, 1) := by decide +kernel
theorem dX12_keep_61 : decode cX12_keep 61 = .ok (.aload_n 0, 1) := by decide +kernel
theorem dX12_keep_62 : decode cX12_keep 62 = .ok (.getfield 38, 3) := by decide +kernel
theorem dX12_keep_65 : decode cX12_keep 65 = .ok (.isub, 1) := by decide +kernel
theorem dX12_keep_66 : decode cX12_keep 66 = .ok (.imul, 1) := by decide +kernel
theorem dX12_keep_67 : decode cX12_keep 67 = .ok (.sipush 256, 3) := by decide +kernel
theorem dX12_keep_70 : decode cX12_keep 70 = .ok (.invokestatic 7, 3) := by decide +kernel
theorem dX12_keep_73 : decode cX12_keep 73 = .ok (.return_, 1) := by decide +kernel
set_option maxRecDepth 100000 in
set_option maxHeartbeats 1000000 in
theorem j_X12_keep_73 {p : Program} {l : Launch} {e : Env} {s : State} {m : MethodId} {args : Array Value} {below : List Frame} {meth : Method} {c : Code} {D : va_G} {aC : Nat → ClassId} {b0 fu : Nat} {σ0 τ : tM} {v : Unit}  (C : tCx p l s m args meth c yX12_keep.cls cX12_keep 3 none D aC b0 σ0) (htab : ∀ x ∈ c.exceptionTable.toList, False) (hin : meth.name = yX12_keep.name)   {σ : tM} (hm : J_X12_keep_73 b0 fu   σ = some (v, τ)) : tX p l e s m args below meth c 3 1 26 D aC b0 σ0 (.inl none) τ 73 [] [] σ := by
  unfold J_X12_keep_73 at hm
  obtain ⟨rfl, rfl⟩ := ret_e hm
  exact zx_vret C rfl rfl rfl dX12_keep_73
set_option maxRecDepth 100000 in
set_option maxHeartbeats 1000000 in
theorem c_X12_keep {l : Launch} {D : va_G} {aC : Nat → ClassId} {b0 fu : Nat} {a0 : Nat} {p0 : Int32} {σ τ : tM} {v : Unit} (hm : m_X12_keep b0 fu a0 p0 σ = some (v, τ)) : tMt l D aC b0 yX12_keep (Cond.code yX12_keep cX12_keep 3 none) 1 26 [.ref (a0), .int (p0)] σ (.inl none) τ := by
  unfold m_X12_keep at hm
  obtain ⟨hg, hm⟩ := grw_e hm
  refine tMt_of (n := 0) rfl (Nat.le_of_ble_eq_true rfl) hg ?_
  intro p e s m below meth c C htab hin
  refine zx_lv [0, 1] [(0, .ref (a0)), (1, .int (p0))] rfl ?_
  refine zx_aload_n C dX12_keep_0 0 rfl ?_
  obtain ⟨k1, i2, hm⟩ := ckO_e hm
  obtain ⟨a3, h4, hm⟩ := osm_e hm
  refine zx_get (j := 11) C tC_11 k1 i2 ⟨by decide, Or.inl W_6_230⟩ dX12_keep_1 (.ref a3) (rf_s h4) ?_
  refine zx_iload_n C dX12_keep_4 1 rfl ?_
  obtain ⟨n7, k5, i6, hm⟩ := ckR_e hm
  obtain ⟨h8, hm⟩ := ckI_e hm
  refine zx_iald C k5 i6 h8 dX12_keep_5 ?_
  refine zx_topi (fun y9 hy9 => ?_)
  replace hm := ltb_e hm hy9
  refine zx_istore_n C [(2, .int (y9)), (0, .ref (a0)), (1, .int (p0))] dX12_keep_6 rfl (by decide) rfl ?_
  refine zx_aload_n C dX12_keep_7 1 rfl ?_
  obtain ⟨a10, h11, hm⟩ := osm_e hm
  refine zx_get (j := 8) C tC_11 k1 i2 ⟨by decide, Or.inl W_6_227⟩ dX12_keep_8 (.ref a10) (rf_s h11) ?_
  refine zx_iload_n C dX12_keep_11 0 rfl ?_
  refine zx_aload_n C dX12_keep_12 1 rfl ?_
  obtain ⟨a12, h13, hm⟩ := osm_e hm
  refine zx_get (j := 12) C tC_11 k1 i2 ⟨by decide, Or.inl W_6_231⟩ dX12_keep_13 (.ref a12) (rf_s h13) ?_
  refine zx_iload_n C dX12_keep_16 2 rfl ?_
  obtain ⟨n16, k14, i15, hm⟩ := ckR_e hm
  obtain ⟨h17, hm⟩ := ckI_e hm
  refine zx_iald C k14 i15 h17 dX12_keep_17 ?_
  obtain ⟨n20, k18, i19, hm⟩ := ckR_e hm
  obtain ⟨h21, hm⟩ := ckI_e hm
  refine zx_iast C k18 i19 h21 dX12_keep_18 ?_
  refine zx_aload_n C dX12_keep_19 1 rfl ?_
  obtain ⟨a22, h23, hm⟩ := osm_e hm
  refine zx_get (j := 9) C tC_11 k1 i2 ⟨by decide, Or.inl W_6_228⟩ dX12_keep_20 (.ref a22) (rf_s h23) ?_
  refine zx_iload_n C dX12_keep_23 0 rfl ?_
  refine zx_aload_n C dX12_keep_24 1 rfl ?_
  obtain ⟨a24, h25, hm⟩ := osm_e hm
  refine zx_get (j := 13) C tC_11 k1 i2 ⟨by decide, Or.inl W_6_232⟩ dX12_keep_25 (.ref a24) (rf_s h25) ?_
  refine zx_iload_n C dX12_keep_28 2 rfl ?_
  obtain ⟨n28, k26, i27, hm⟩ := ckR_e hm
  obtain ⟨h29, hm⟩ := ckI_e hm
  refine zx_iald C k26 i27 h29 dX12_keep_29 ?_
  obtain ⟨n32, k30, i31, hm⟩ := ckR_e hm
  obtain ⟨h33, hm⟩ := ckI_e hm
  refine zx_iast C k30 i31 h33 dX12_keep_30 ?_
  refine zx_aload_n C dX12_keep_31 1 rfl ?_
  obtain ⟨a34, h35, hm⟩ := osm_e hm
  refine zx_get (j := 12) C tC_11 k1 i2 ⟨by decide, Or.inl W_6_231⟩ dX12_keep_32 (.ref a34) (rf_s h35) ?_
  refine zx_iload_n C dX12_keep_35 2 rfl ?_
  obtain ⟨n38, k36, i37, hm⟩ := ckR_e hm
  obtain ⟨h39, hm⟩ := ckI_e hm
  refine zx_iald C k36 i37 h39 dX12_keep_36 ?_
  refine zx_iconst (v := 3) C dX12_keep_37 (by decide) ?_
  refine zx_icmp_ne C 73 dX12_keep_38 (by decide) (fun c40 => ?_) (fun c40 => ?_)
  · replace hm := in_e hm c40
    exact zx_lv [] [] rfl (j_X12_keep_73 C htab hin    hm)
  · replace hm := ip_e hm c40
    refine zx_aload_n C dX12_keep_41 1 rfl ?_
    obtain ⟨a41, h42, hm⟩ := osm_e hm
    refine zx_get (j := 14) C tC_11 k1 i2 ⟨by decide, Or.inl W_6_233⟩ dX12_keep_42 (.ref a41) (rf_s h42) ?_
    refine zx_sipush (v := 256) C dX12_keep_45 (by decide) ?_
    refine zx_iload_n C dX12_keep_48 2 rfl ?_
    refine zx_imul C dX12_keep_49 ?_
    refine zx_aload_n C dX12_keep_50 1 rfl ?_
    obtain ⟨a43, h44, hm⟩ := osm_e hm
    refine zx_get (j := 10) C tC_11 k1 i2 ⟨by decide, Or.inl W_6_229⟩ dX12_keep_51 (.ref a43) (rf_s h44) ?_
    refine zx_sipush (v := 256) C dX12_keep_54 (by decide) ?_
    refine zx_iload_n C dX12_keep_57 0 rfl ?_
    refine zx_bipush (v := 34) C dX12_keep_58 (by decide) ?_
    refine zx_isub C dX12_keep_60 ?_
    refine zx_aload_n C dX12_keep_61 1 rfl ?_
    refine zx_get (j := 6) C tC_11 k1 i2 ⟨by decide, Or.inl W_6_225⟩ dX12_keep_62 (.int (tI (sI (sI (σ) (a10) ((y9).toNatClampNeg) (tI (σ) (a12) ((p0).toNatClampNeg))) (a22) ((y9).toNatClampNeg) (tI (sI (σ) (a10) ((y9).toNatClampNeg) (tI (σ) (a12) ((p0).toNatClampNeg))) (a24) ((p0).toNatClampNeg))) (a0) 6)) rfl ?_
    refine zx_isub C dX12_keep_65 ?_
    refine zx_imul C dX12_keep_66 ?_
    refine zx_sipush (v := 256) C dX12_keep_67 (by decide) ?_
    obtain ⟨n47, k45, i46, hm⟩ := ckR_e hm
    obtain ⟨n50, k48, i49, hm⟩ := ckR_e hm
    obtain ⟨h51, hm⟩ := ckC_e hm
    obtain ⟨h71, hm⟩ := ckF_e hm
    refine zx_copyB (σ := sI (sI (σ) (a10) ((y9).toNatClampNeg) (tI (σ) (a12) ((p0).toNatClampNeg))) (a22) ((y9).toNatClampNeg) (tI (sI (σ) (a10) ((y9).toNatClampNeg) (tI (σ) (a12) ((p0).toNatClampNeg))) (a24) ((p0).toNatClampNeg))) C W_7_169 W_2_135 W_2_134 W_1_11 k45 i46 k48 i49 h51 h71 (by decide) (by decide) (Nat.le_of_ble_eq_true rfl) dX12_keep_70 ?_
    refine zx_mem (fun ρ52 hρ52 => ?_)
    replace hm := ltb_e hm hρ52
    have k53 : tk ρ52 (a0) = .inl 11 := by rw [hρ52]; exact k1
    have i54 : tIn b0 ρ52 (a0) := by rw [hρ52]; exact i2
    have k55 : tk ρ52 (a3) = .inr (0, n7) := by rw [hρ52]; exact k5
    have i56 : tIn b0 ρ52 (a3) := by rw [hρ52]; exact i6
    have k57 : tk ρ52 (a12) = .inr (0, n16) := by rw [hρ52]; exact k14
    have i58 : tIn b0 ρ52 (a12) := by rw [hρ52]; exact i15
    have k59 : tk ρ52 (a10) = .inr (0, n20) := by rw [hρ52]; exact k18
    have i60 : tIn b0 ρ52 (a10) := by rw [hρ52]; exact i19
    have k61 : tk ρ52 (a24) = .inr (0, n28) := by rw [hρ52]; exact k26
    have i62 : tIn b0 ρ52 (a24) := by rw [hρ52]; exact i27
    have k63 : tk ρ52 (a22) = .inr (0, n32) := by rw [hρ52]; exact k30
    have i64 : tIn b0 ρ52 (a22) := by rw [hρ52]; exact i31
    have k65 : tk ρ52 (a34) = .inr (0, n38) := by rw [hρ52]; exact k36
    have i66 : tIn b0 ρ52 (a34) := by rw [hρ52]; exact i37
    have k67 : tk ρ52 (a41) = .inr (1, n47) := by rw [hρ52]; exact k45
    have i68 : tIn b0 ρ52 (a41) := by rw [hρ52]; exact i46
    have k69 : tk ρ52 (a43) = .inr (1, n50) := by rw [hρ52]; exact k48
    have i70 : tIn b0 ρ52 (a43) := by rw [hρ52]; exact i49
    exact zx_lv [] [] rfl (j_X12_keep_73 C htab hin    hm)
abbrev cX12_keepOldest : ByteArray := prog_13_method_12_code
def yX12_keepOldest : MethodName := ⟨"SyncTreeModel", "keepOldest", "()V"⟩
theorem Y_X12_keepOldest : tY yX12_keepOldest cX12_keepOldest 1 none 0 := ⟨W_7_227, W_1_14, ⟨by decide +kernel, by decide +kernel⟩, by decide +kernel⟩
theorem dX12_keepOldest_0 : decode cX12_keepOldest 0 = .ok (.aload_n 0, 1) := by decide +kernel
theorem dX12_keepOldest_1 : decode cX12_keepOldest 1 = .ok (.aload_n 0, 1) := by decide +kernel
theorem dX12_keepOldest_2 : decode cX12_keepOldest 2 = .ok (.getfield 87, 3) := by decide +kernel
theorem dX12_keepOldest_5 : decode cX12_keepOldest 5 = .ok (.invokevirtual 90, 3) := by decide +kernel
theorem dX12_keepOldest_8 : decode cX12_keepOldest 8 = .ok (.aload_n 0, 1) := by decide +kernel
theorem dX12_keepOldest_9 : decode cX12_keepOldest 9 = .ok (.aload_n 0, 1) := by decide +kernel
theorem dX12_keepOldest_10 : decode cX12_keepOldest 10 = .ok (.getfield 87, 3) := by decide +kernel
theorem dX12_keepOldest_13 : decode cX12_keepOldest 13 = .ok (.iconst 1, 1) := by decide +kernel
theorem dX12_keepOldest_14 : decode cX12_keepOldest 14 = .ok (.iadd, 1) := by decide +kernel
theorem dX12_keepOldest_15 : decode cX12_keepOldest 15 = .ok (.sipush 256, 3) := by decide +kernel
theorem dX12_keepOldest_18 : decode cX12_keepOldest 18 = .ok (.irem, 1) := by decide +kernel
theorem dX12_keepOldest_19 : decode cX12_keepOldest 19 = .ok (.putfield 87, 3) := by decide +kernel
theorem dX12_keepOldest_22 : decode cX12_keepOldest 22 = .ok (.aload_n 0, 1) := by decide +kernel
theorem dX12_keepOldest_23 : decode cX12_keepOldest 23 = .ok (.dup, 1) := by decide +kernel
theorem dX12_keepOldest_24 : decode cX12_keepOldest 24 = .ok (.getfield 93, 3) := by decide +kernel
theorem dX12_keepOldest_27 : decode cX12_keepOldest 27 = .ok (.iconst 1, 1) := by decide +kernel
theorem dX12_keepOldest_28 : decode cX12_keepOldest 28 = .ok (.isub, 1) := by decide +kernel
theorem dX12_keepOldest_29 : decode cX12_keepOldest 29 = .ok (.putfield 93, 3) := by decide +kernel
theorem dX12_keepOldest_32 : decode cX12_keepOldest 32 = .ok (.return_, 1) := by decide +kernel
set_option maxRecDepth 100000 in
set_option maxHeartbeats 1000000 in
theorem c_X12_keepOldest {l : Launch} {D : va_G} {aC : Nat → ClassId} {b0 fu : Nat} {a0 : Nat} {σ τ : tM} {v : Unit} (hm : m_X12_keepOldest b0 fu a0 σ = some (v, τ)) : tMt l D aC b0 yX12_keepOldest (Cond.code yX12_keepOldest cX12_keepOldest 1 none) 2 48 [.ref (a0)] σ (.inl none) τ := by
  unfold m_X12_keepOldest at hm
  obtain ⟨hg, hm⟩ := grw_e hm
  refine tMt_of (n := 0) rfl (Nat.le_of_ble_eq_true rfl) hg ?_
  intro p e s m below meth c C htab hin
  refine zx_lv [0] [(0, .ref (a0))] rfl ?_
  refine zx_aload_n C dX12_keepOldest_0 0 rfl ?_
  refine zx_aload_n C dX12_keepOldest_1 0 rfl ?_
  obtain ⟨k1, i2, hm⟩ := ckO_e hm
  refine zx_get (j := 15) C tC_11 k1 i2 ⟨by decide, Or.inl W_6_234⟩ dX12_keepOldest_2 (.int (tI (σ) (a0) 15)) rfl ?_
  obtain ⟨v3, ρ4, h5, hm⟩ := cll_e hm
  refine zx_callV (σ := σ) C [.int (tI (σ) (a0) 15)] tC_11 k1 i2 Y_X12_keep W_7_228 W_7_230 Wp_68 (c_X12_keep h5) (by decide) (by decide) rfl (Nat.le_of_ble_eq_true rfl) dX12_keepOldest_5 rfl ?_
  refine zx_aload_n C dX12_keepOldest_8 0 rfl ?_
  refine zx_aload_n C dX12_keepOldest_9 0 rfl ?_
  obtain ⟨k6, i7, hm⟩ := ckO_e hm
  refine zx_get (j := 15) C tC_11 k6 i7 ⟨by decide, Or.inl W_6_234⟩ dX12_keepOldest_10 (.int (tI (ρ4) (a0) 15)) rfl ?_
  refine zx_iconst (v := 1) C dX12_keepOldest_13 (by decide) ?_
  refine zx_iadd C dX12_keepOldest_14 ?_
  refine zx_sipush (v := 256) C dX12_keepOldest_15 (by decide) ?_
  refine zx_irem C dX12_keepOldest_18 (by decide) ?_
  refine zx_put (j := 15) (ρ := sI (ρ4) (a0) 15 (((tI (ρ4) (a0) 15) + (1)) - ((tI (ρ4) (a0) 15) + (1)) / (256) * (256))) C tC_11 k6 i7 ⟨by decide, Or.inl W_6_234⟩ rfl rfl rfl (sI_ok (fun _ => rfl)) dX12_keepOldest_19 ?_
  refine zx_aload_n C dX12_keepOldest_22 0 rfl ?_
  refine zx_dup C dX12_keepOldest_23 rfl ?_
  refine zx_get (j := 16) C tC_11 k6 i7 ⟨by decide, Or.inl W_6_235⟩ dX12_keepOldest_24 (.int (tI (sI (ρ4) (a0) 15 (((tI (ρ4) (a0) 15) + (1)) - ((tI (ρ4) (a0) 15) + (1)) / (256) * (256))) (a0) 16)) rfl ?_
  refine zx_iconst (v := 1) C dX12_keepOldest_27 (by decide) ?_
  refine zx_isub C dX12_keepOldest_28 ?_
  refine zx_put (j := 16) (ρ := sI (sI (ρ4) (a0) 15 (((tI (ρ4) (a0) 15) + (1)) - ((tI (ρ4) (a0) 15) + (1)) / (256) * (256))) (a0) 16 ((tI (sI (ρ4) (a0) 15 (((tI (ρ4) (a0) 15) + (1)) - ((tI (ρ4) (a0) 15) + (1)) / (256) * (256))) (a0) 16) - (1))) C tC_11 k6 i7 ⟨by decide, Or.inl W_6_235⟩ rfl rfl rfl (sI_ok (fun _ => rfl)) dX12_keepOldest_29 ?_
  obtain ⟨rfl, rfl⟩ := ret_e hm
  exact zx_vret C rfl rfl rfl dX12_keepOldest_32
abbrev cX12_touch : ByteArray := prog_13_method_15_code
def yX12_touch : MethodName := ⟨"SyncTreeModel", "touch", "(I)V"⟩
theorem Y_X12_touch : tY yX12_touch cX12_touch 2 none 1 := ⟨W_8_110, W_1_14, ⟨by decide +kernel, by decide +kernel⟩, by decide +kernel⟩
theorem dX12_touch_0 : decode cX12_touch 0 = .ok (.aload_n 0, 1) := by decide +kernel
theorem dX12_touch_1 : decode cX12_touch 1 = .ok (.getfield 108, 3) := by decide +kernel
theorem dX12_touch_4 : decode cX12_touch 4 = .ok (.iload_n 1, 1) := by decide +kernel
theorem dX12_touch_5 : decode cX12_touch 5 = .ok (.iconst 1, 1) := by decide +kernel
theorem dX12_touch_6 : decode cX12_touch 6 = .ok (.bastore, 1) := by decide +kernel
theorem dX12_touch_7 : decode cX12_touch 7 = .ok (.return_, 1) := by decide +kernel
set_option maxRecDepth 100000 in
set_option maxHeartbeats 1000000 in
theorem c_X12_touch {l : Launch} {D : va_G} {aC : Nat → ClassId} {b0 fu : Nat} {a0 : Nat} {p0 : Int32} {σ τ : tM} {v : Unit} (hm : m_X12_touch b0 fu a0 p0 σ = some (v, τ)) : tMt l D aC b0 yX12_touch (Cond.code yX12_touch cX12_touch 2 none) 0 0 [.ref (a0), .int (p0)] σ (.inl none) τ := by
  unfold m_X12_touch at hm
  obtain ⟨hg, hm⟩ := grw_e hm
  refine tMt_of (n := 0) rfl (Nat.le_of_ble_eq_true rfl) hg ?_
  intro p e s m below meth c C htab hin
  refine zx_lv [0, 1] [(0, .ref (a0)), (1, .int (p0))] rfl ?_
  refine zx_aload_n C dX12_touch_0 0 rfl ?_
  obtain ⟨k1, i2, hm⟩ := ckO_e hm
  obtain ⟨a3, h4, hm⟩ := osm_e hm
  refine zx_get (j := 26) C tC_11 k1 i2 ⟨by decide, Or.inl W_7_5⟩ dX12_touch_1 (.ref a3) (rf_s h4) ?_
  refine zx_iload_n C dX12_touch_4 1 rfl ?_
  refine zx_iconst (v := 1) C dX12_touch_5 (by decide) ?_
  obtain ⟨n7, k5, i6, hm⟩ := ckR_e hm
  obtain ⟨h8, hm⟩ := ckI_e hm
  refine zx_zast C k5 i6 h8 dX12_touch_6 ?_
  obtain ⟨rfl, rfl⟩ := ret_e hm
  exact zx_vret C rfl rfl rfl dX12_touch_7
abbrev cX12_count : ByteArray := prog_13_method_16_code
def yX12_count : MethodName := ⟨"SyncTreeModel", "count", "([Z)I"⟩
theorem Y_X12_count : tY yX12_count cX12_count 3 (some .int) 1 := ⟨W_7_195, W_1_14, ⟨by decide +kernel, by decide +kernel⟩, by decide +kernel⟩
theorem dX12_count_0 : decode cX12_count 0 = .ok (.iconst 0, 1) := by decide +kernel
theorem dX12_count_1 : decode cX12_count 1 = .ok (.istore_n 1, 1) := by decide +kernel
theorem dX12_count_2 : decode cX12_count 2 = .ok (.iconst 0, 1) := by decide +kernel
theorem dX12_count_3 : decode cX12_count 3 = .ok (.istore_n 2, 1) := by decide +kernel
theorem dX12_count_4 : decode cX12_count 4 = .ok (.iload_n 2, 1) := by decide +kernel
theorem dX12_count_5 : decode cX12_count 5 = .ok (.aload_n 0, 1) := by decide +kernel
theorem dX12_count_6 : decode cX12_count 6 = .ok (.arraylength, 1) := by decide +kernel
theorem dX12_count_7 : decode cX12_count 7 = .ok (.if_icmp .ge 18, 3) := by decide +kernel
theorem dX12_count_10 : decode cX12_count 10 = .ok (.aload_n 0, 1) := by decide +kernel
theorem dX12_count_11 : decode cX12_count 11 = .ok (.iload_n 2, 1) := by decide +kernel
theorem dX12_count_12 : decode cX12_count 12 = .ok (.baload, 1) := by decide +kernel
theorem dX12_count_13 : decode cX12_count 13 = .ok (.ifCond .eq 6, 3) := by decide +kernel
theorem dX12_count_16 : decode cX12_count 16 = .ok (.iinc 1 1, 3) := by decide +kernel
theorem dX12_count_19 : decode cX12_count 19 = .ok (.iinc 2 1, 3) := by decide +kernel
theorem dX12_count_22 : decode cX12_count 22 = .ok (.goto (-18), 3) := by decide +kernel
theorem dX12_count_25 : decode cX12_count 25 = .ok (.iload_n 1, 1) := by decide +kernel
theorem dX12_count_26 : decode cX12_count 26 = .ok (.ireturn, 1) := by decide +kernel
set_option maxRecDepth 100000 in
set_option maxHeartbeats 1000000 in
theorem j_X12_count_19 {p : Program} {l : Launch} {e : Env} {s : State} {m : MethodId} {args : Array Value} {below : List Frame} {meth : Method} {c : Code} {D : va_G} {aC : Nat → ClassId} {b0 fu : Nat} {σ0 τ : tM} {v : Int32} {rc4 : Nat → Int32 → Int32 → tM → Option ((Int32) × tM)} (C : tCx p l s m args meth c yX12_count.cls cX12_count 3 (some .int) D aC b0 σ0) (htab : ∀ x ∈ c.exceptionTable.toList, False) (hin : meth.name = yX12_count.name) (hrc4 : ∀ (x0 : Nat) (x1 : Int32) (x2 : Int32) (ρ : tM), rc4 x0 x1 x2 ρ = some (v, τ) → tX p l e s m args below meth c 3 0 0 D aC b0 σ0 (.inl (some (.int v))) τ 4 [(0, .ref (x0)), (1, .int (x1)), (2, .int (x2))] [] ρ) {x0 : Nat} {x1 : Int32} {x2 : Int32} {σ : tM} (hm : J_X12_count_19 b0 fu rc4 x0 x1 x2 σ = some (v, τ)) : tX p l e s m args below meth c 3 0 0 D aC b0 σ0 (.inl (some (.int v))) τ 19 [(0, .ref (x0)), (1, .int (x1)), (2, .int (x2))] [] σ := by
  unfold J_X12_count_19 at hm
  obtain ⟨y7, hy7⟩ : ∃ z : Int32, z = (x2) + Int32.ofInt 1 := ⟨_, rfl⟩
  replace hm := ltb_e hm hy7
  refine zx_iinc C [(2, .int (y7)), (0, .ref (x0)), (1, .int (x1))] dX12_count_19 2 rfl hy7.symm (by decide) rfl ?_
  refine zx_goto C 4 dX12_count_22 (by decide) ?_
  exact zx_lv [1, 2, 0] [(0, .ref (x0)), (1, .int (x1)), (2, .int (y7))] rfl (hrc4 _ _ _ _ hm)
set_option maxRecDepth 100000 in
set_option maxHeartbeats 1000000 in
theorem l_X12_count_4 {p : Program} {l : Launch} {e : Env} {s : State} {m : MethodId} {args : Array Value} {below : List Frame} {meth : Method} {c : Code} {D : va_G} {aC : Nat → ClassId} {b0 fu : Nat} {σ0 τ : tM} {v : Int32}  (C : tCx p l s m args meth c yX12_count.cls cX12_count 3 (some .int) D aC b0 σ0) (htab : ∀ x ∈ c.exceptionTable.toList, False) (hin : meth.name = yX12_count.name)  : ∀ (n : Nat) (x0 : Nat) (x1 : Int32) (x2 : Int32) (σ : tM), L_X12_count_4 b0 fu  n x0 x1 x2 σ = some (v, τ) → tX p l e s m args below meth c 3 0 0 D aC b0 σ0 (.inl (some (.int v))) τ 4 [(0, .ref (x0)), (1, .int (x1)), (2, .int (x2))] [] σ := by
  intro n
  induction n with
  | zero => intro x0 x1 x2 σ hm; unfold L_X12_count_4 at hm; cases hm
  | succ n ih =>
    intro x0 x1 x2 σ hm
    unfold L_X12_count_4 at hm
    obtain ⟨rc4, hrc⟩ : ∃ z, z = L_X12_count_4 b0 fu  n := ⟨_, rfl⟩
    replace hm := ltb_e hm hrc
    rw [← hrc] at ih
    have hrc4 := ih
    clear ih hrc
    refine zx_iload_n C dX12_count_4 2 rfl ?_
    refine zx_aload_n C dX12_count_5 0 rfl ?_
    obtain ⟨n3, k1, i2, hm⟩ := ckR_e hm
    refine zx_alen C k1 (by decide) i2 dX12_count_6 ?_
    refine zx_icmp_ge C 25 dX12_count_7 (by decide) (fun c4 => ?_) (fun c4 => ?_)
    · replace hm := ip_e hm c4
      refine zx_iload_n C dX12_count_25 1 rfl ?_
      obtain ⟨rfl, rfl⟩ := ret_e hm
      exact zx_iret C rfl rfl rfl dX12_count_26
    · replace hm := in_e hm c4
      refine zx_aload_n C dX12_count_10 0 rfl ?_
      refine zx_iload_n C dX12_count_11 2 rfl ?_
      obtain ⟨h5, hm⟩ := ckI_e hm
      refine zx_zald C k1 i2 h5 dX12_count_12 ?_
      refine zx_if_eq C 19 dX12_count_13 (by decide) (fun c6 => ?_) (fun c6 => ?_)
      · replace hm := ip_e hm c6
        exact zx_lv [0, 1, 2] [(0, .ref (x0)), (1, .int (x1)), (2, .int (x2))] rfl (j_X12_count_19 C htab hin hrc4   hm)
      · replace hm := in_e hm c6
        obtain ⟨y8, hy8⟩ : ∃ z : Int32, z = (x1) + Int32.ofInt 1 := ⟨_, rfl⟩
        replace hm := ltb_e hm hy8
        refine zx_iinc C [(1, .int (y8)), (0, .ref (x0)), (2, .int (x2))] dX12_count_16 1 rfl hy8.symm (by decide) rfl ?_
        exact zx_lv [1, 0, 2] [(0, .ref (x0)), (1, .int (y8)), (2, .int (x2))] rfl (j_X12_count_19 C htab hin hrc4   hm)
set_option maxRecDepth 100000 in
set_option maxHeartbeats 1000000 in
theorem c_X12_count {l : Launch} {D : va_G} {aC : Nat → ClassId} {b0 fu : Nat} {p0 : Nat} {σ τ : tM} {v : Int32} (hm : m_X12_count b0 fu p0 σ = some (v, τ)) : tMt l D aC b0 yX12_count (Cond.code yX12_count cX12_count 3 (some .int)) 0 0 [.ref (p0)] σ (.inl (some (.int v))) τ := by
  unfold m_X12_count at hm
  obtain ⟨hg, hm⟩ := grw_e hm
  refine tMt_of (n := 0) rfl (Nat.le_of_ble_eq_true rfl) hg ?_
  intro p e s m below meth c C htab hin
  refine zx_lv [0] [(0, .ref (p0))] rfl ?_
  refine zx_iconst (v := 0) C dX12_count_0 (by decide) ?_
  refine zx_istore_n C [(1, .int (0)), (0, .ref (p0))] dX12_count_1 rfl (by decide) rfl ?_
  refine zx_iconst (v := 0) C dX12_count_2 (by decide) ?_
  refine zx_istore_n C [(2, .int (0)), (1, .int (0)), (0, .ref (p0))] dX12_count_3 rfl (by decide) rfl ?_
  exact zx_lv [2, 1, 0] [(0, .ref (p0)), (1, .int (0)), (2, .int (0))] rfl (l_X12_count_4 C htab hin  _ _ _ _ _ hm)
abbrev cX12_groupSize : ByteArray := prog_13_method_17_code
def yX12_groupSize : MethodName := ⟨"SyncTreeModel", "groupSize", "()I"⟩
theorem Y_X12_groupSize : tY yX12_groupSize cX12_groupSize 3 (some .int) 0 := ⟨W_7_192, W_1_14, ⟨by decide +kernel, by decide +kernel⟩, by decide +kernel⟩
theorem dX12_groupSize_0 : decode cX12_groupSize 0 = .ok (.aload_n 0, 1) := by decide +kernel
theorem dX12_groupSize_1 : decode cX12_groupSize 1 = .ok (.getfield 108, 3) := by decide +kernel
theorem dX12_groupSize_4 : decode cX12_groupSize 4 = .ok (.invokestatic 112, 3) := by decide +kernel
theorem dX12_groupSize_7 : decode cX12_groupSize 7 = .ok (.istore_n 1, 1) := by decide +kernel
theorem dX12_groupSize_8 : decode cX12_groupSize 8 = .ok (.aload_n 0, 1) := by decide +kernel
theorem dX12_groupSize_9 : decode cX12_groupSize 9 = .ok (.getfield 116, 3) := by decide +kernel
theorem dX12_groupSize_12 : decode cX12_groupSize 12 = .ok (.invokestatic 112, 3) := by decide +kernel
theorem dX12_groupSize_15 : decode cX12_groupSize 15 = .ok (.istore_n 2, 1) := by decide +kernel
theorem dX12_groupSize_16 : decode cX12_groupSize 16 = .ok (.iload_n 1, 1) := by decide +kernel
theorem dX12_groupSize_17 : decode cX12_groupSize 17 = .ok (.iload_n 1, 1) := by decide +kernel
theorem dX12_groupSize_18 : decode cX12_groupSize 18 = .ok (.iload_n 2, 1) := by decide +kernel
theorem dX12_groupSize_19 : decode cX12_groupSize 19 = .ok (.iadd, 1) := by decide +kernel
theorem dX12_groupSize_20 : decode cX12_groupSize 20 = .ok (.bipush 119, 2) := by decide +kernel
theorem dX12_groupSize_22 : decode cX12_groupSize 22 = .ok (.iadd, 1) := by decide +kernel
theorem dX12_groupSize_23 : decode cX12_groupSize 23 = .ok (.bipush 120, 2) := by decide +kernel
theorem dX12_groupSize_25 : decode cX12_groupSize 25 = .ok (.idiv, 1) := by decide +kernel
theorem dX12_groupSize_26 : decode cX12_groupSize 26 = .ok (.iadd, 1) := by decide +kernel
theorem dX12_groupSize_27 : decode cX12_groupSize 27 = .ok (.ireturn, 1) := by decide +kernel
set_option maxRecDepth 100000 in
set_option maxHeartbeats 1000000 in
theorem c_X12_groupSize {l : Launch} {D : va_G} {aC : Nat → ClassId} {b0 fu : Nat} {a0 : Nat} {σ τ : tM} {v : Int32} (hm : m_X12_groupSize b0 fu a0 σ = some (v, τ)) : tMt l D aC b0 yX12_groupSize (Cond.code yX12_groupSize cX12_groupSize 3 (some .int)) 1 22 [.ref (a0)] σ (.inl (some (.int v))) τ := by
  unfold m_X12_groupSize at hm
  obtain ⟨hg, hm⟩ := grw_e hm
  refine tMt_of (n := 0) rfl (Nat.le_of_ble_eq_true rfl) hg ?_
  intro p e s m below meth c C htab hin
  refine zx_lv [0] [(0, .ref (a0))] rfl ?_
  refine zx_aload_n C dX12_groupSize_0 0 rfl ?_
  obtain ⟨k1, i2, hm⟩ := ckO_e hm
  obtain ⟨a3, h4, hm⟩ := osm_e hm
  refine zx_get (j := 26) C tC_11 k1 i2 ⟨by decide, Or.inl W_7_5⟩ dX12_groupSize_1 (.ref a3) (rf_s h4) ?_
  obtain ⟨v5, ρ6, h7, hm⟩ := cll_e hm
  refine zx_callS (σ := σ) C [.ref (a3)] Y_X12_count W_7_193 W_7_194 (c_X12_count h7) (by decide) (by decide) rfl (Nat.le_of_ble_eq_true rfl) dX12_groupSize_4 rfl ?_
  refine zx_istore_n C [(1, .int (v5)), (0, .ref (a0))] dX12_groupSize_7 rfl (by decide) rfl ?_
  refine zx_aload_n C dX12_groupSize_8 1 rfl ?_
  obtain ⟨k8, i9, hm⟩ := ckO_e hm
  obtain ⟨a10, h11, hm⟩ := osm_e hm
  refine zx_get (j := 27) C tC_11 k8 i9 ⟨by decide, Or.inl W_7_6⟩ dX12_groupSize_9 (.ref a10) (rf_s h11) ?_
  obtain ⟨v12, ρ13, h14, hm⟩ := cll_e hm
  refine zx_callS (σ := ρ6) C [.ref (a10)] Y_X12_count W_7_193 W_7_194 (c_X12_count h14) (by decide) (by decide) rfl (Nat.le_of_ble_eq_true rfl) dX12_groupSize_12 rfl ?_
  refine zx_istore_n C [(2, .int (v12)), (1, .int (v5)), (0, .ref (a0))] dX12_groupSize_15 rfl (by decide) rfl ?_
  refine zx_iload_n C dX12_groupSize_16 1 rfl ?_
  refine zx_iload_n C dX12_groupSize_17 1 rfl ?_
  refine zx_iload_n C dX12_groupSize_18 0 rfl ?_
  refine zx_iadd C dX12_groupSize_19 ?_
  refine zx_bipush (v := 119) C dX12_groupSize_20 (by decide) ?_
  refine zx_iadd C dX12_groupSize_22 ?_
  refine zx_bipush (v := 120) C dX12_groupSize_23 (by decide) ?_
  refine zx_idiv C dX12_groupSize_25 (by decide) ?_
  refine zx_iadd C dX12_groupSize_26 ?_
  obtain ⟨rfl, rfl⟩ := ret_e hm
  exact zx_iret C rfl rfl rfl dX12_groupSize_27
abbrev cX12_freeOfLog : ByteArray := prog_13_method_18_code
def yX12_freeOfLog : MethodName := ⟨"SyncTreeModel", "freeOfLog", "()I"⟩
theorem Y_X12_freeOfLog : tY yX12_freeOfLog cX12_freeOfLog 3 (some .int) 0 := ⟨W_7_203, W_1_14, ⟨by decide +kernel, by decide +kernel⟩, by decide +kernel⟩
theorem dX12_freeOfLog_0 : decode cX12_freeOfLog 0 = .ok (.aload_n 0, 1) := by decide +kernel
theorem dX12_freeOfLog_1 : decode cX12_freeOfLog 1 = .ok (.getfield 38, 3) := by decide +kernel
theorem dX12_freeOfLog_4 : decode cX12_freeOfLog 4 = .ok (.istore_n 1, 1) := by decide +kernel
theorem dX12_freeOfLog_5 : decode cX12_freeOfLog 5 = .ok (.aload_n 0, 1) := by decide +kernel
theorem dX12_freeOfLog_6 : decode cX12_freeOfLog 6 = .ok (.getfield 119, 3) := by decide +kernel
theorem dX12_freeOfLog_9 : decode cX12_freeOfLog 9 = .ok (.iconst 1, 1) := by decide +kernel
theorem dX12_freeOfLog_10 : decode cX12_freeOfLog 10 = .ok (.iadd, 1) := by decide +kernel
theorem dX12_freeOfLog_11 : decode cX12_freeOfLog 11 = .ok (.istore_n 2, 1) := by decide +kernel
theorem dX12_freeOfLog_12 : decode cX12_freeOfLog 12 = .ok (.iload_n 2, 1) := by decide +kernel
theorem dX12_freeOfLog_13 : decode cX12_freeOfLog 13 = .ok (.aload_n 0, 1) := by decide +kernel
theorem dX12_freeOfLog_14 : decode cX12_freeOfLog 14 = .ok (.getfield 122, 3) := by decide +kernel
theorem dX12_freeOfLog_17 : decode cX12_freeOfLog 17 = .ok (.if_icmp .gt 25, 3) := by decide +kernel
theorem dX12_freeOfLog_20 : decode cX12_freeOfLog 20 = .ok (.iload_n 1, 1) := by decide +kernel
theorem dX12_freeOfLog_21 : decode cX12_freeOfLog 21 = .ok (.aload_n 0, 1) := by decide +kernel
theorem dX12_freeOfLog_22 : decode cX12_freeOfLog 22 = .ok (.getfield 125, 3) := by decide +kernel
theorem dX12_freeOfLog_25 : decode cX12_freeOfLog 25 = .ok (.iload_n 2, 1) := by decide +kernel
theorem dX12_freeOfLog_26 : decode cX12_freeOfLog 26 = .ok (.aload_n 0, 1) := by decide +kernel
theorem dX12_freeOfLog_27 : decode cX12_freeOfLog 27 = .ok (.getfield 128, 3) := by decide +kernel
theorem dX12_freeOfLog_30 : decode cX12_freeOfLog 30 = .ok (.isub, 1) := by decide +kernel
theorem dX12_freeOfLog_31 : decode cX12_freeOfLog 31 = .ok (.iconst 1, 1) := by decide +kernel
theorem dX12_freeOfLog_32 : decode cX12_freeOfLog 32 = .ok (.isub, 1) := by decide +kernel
theorem dX12_freeOfLog_33 : decode cX12_freeOfLog 33 = .ok (.iaload, 1) := by decide +kernel
theorem dX12_freeOfLog_34 : decode cX12_freeOfLog 34 = .ok (.isub, 1) := by decide +kernel
theorem dX12_freeOfLog_35 : decode cX12_freeOfLog 35 = .ok (.istore_n 1, 1) := by decide +kernel
theorem dX12_freeOfLog_36 : decode cX12_freeOfLog 36 = .ok (.iinc 2 1, 3) := by decide +kernel
theorem dX12_freeOfLog_39 : decode cX12_freeOfLog 39 = .ok (.goto (-27), 3) := by decide +kernel
theorem dX12_freeOfLog_42 : decode cX12_freeOfLog 42 = .ok (.iload_n 1, 1) := by decide +kernel
theorem dX12_freeOfLog_43 : decode cX12_freeOfLog 43 = .ok (.ireturn, 1) := by decide +kernel
set_option maxRecDepth 100000 in
set_option maxHeartbeats 1000000 in
theorem l_X12_freeOfLog_12 {p : Program} {l : Launch} {e : Env} {s : State} {m : MethodId} {args : Array Value} {below : List Frame} {meth : Method} {c : Code} {D : va_G} {aC : Nat → ClassId} {b0 fu : Nat} {σ0 τ : tM} {v : Int32}  (C : tCx p l s m args meth c yX12_freeOfLog.cls cX12_freeOfLog 3 (some .int) D aC b0 σ0) (htab : ∀ x ∈ c.exceptionTable.toList, False) (hin : meth.name = yX12_freeOfLog.name)  : ∀ (n : Nat) (x0 : Nat) (x1 : Int32) (x2 : Int32) (σ : tM), L_X12_freeOfLog_12 b0 fu  n x0 x1 x2 σ = some (v, τ) → tX p l e s m args below meth c 3 0 0 D aC b0 σ0 (.inl (some (.int v))) τ 12 [(0, .ref (x0)), (1, .int (x1)), (2, .int (x2))] [] σ := by
  intro n
  induction n with
  | zero => intro x0 x1 x2 σ hm; unfold L_X12_freeOfLog_12 at hm; cases hm
  | succ n ih =>
    intro x0 x1 x2 σ hm
    unfold L_X12_freeOfLog_12 at hm
    obtain ⟨rc12, hrc⟩ : ∃ z, z = L_X12_freeOfLog_12 b0 fu  n := ⟨_, rfl⟩
    replace hm := ltb_e hm hrc
    rw [← hrc] at ih
    have hrc12 := ih
    clear ih hrc
    refine zx_iload_n C dX12_freeOfLog_12 2 rfl ?_
    refine zx_aload_n C dX12_freeOfLog_13 0 rfl ?_
    obtain ⟨k5, i6, hm⟩ := ckO_e hm
    refine zx_get (j := 28) C tC_11 k5 i6 ⟨by decide, Or.inl W_7_7⟩ dX12_freeOfLog_14 (.int (tI (σ) (x0) 28)) rfl ?_
    refine zx_icmp_gt C 42 dX12_freeOfLog_17 (by decide) (fun c7 => ?_) (fun c7 => ?_)
    · replace hm := ip_e hm c7
      refine zx_iload_n C dX12_freeOfLog_42 1 rfl ?_
      obtain ⟨rfl, rfl⟩ := ret_e hm
      exact zx_iret C rfl rfl rfl dX12_freeOfLog_43
    · replace hm := in_e hm c7
      refine zx_iload_n C dX12_freeOfLog_20 1 rfl ?_
      refine zx_aload_n C dX12_freeOfLog_21 0 rfl ?_
      obtain ⟨a8, h9, hm⟩ := osm_e hm
      refine zx_get (j := 39) C tC_11 k5 i6 ⟨by decide, Or.inl W_7_18⟩ dX12_freeOfLog_22 (.ref a8) (rf_s h9) ?_
      refine zx_iload_n C dX12_freeOfLog_25 2 rfl ?_
      refine zx_aload_n C dX12_freeOfLog_26 0 rfl ?_
      refine zx_get (j := 35) C tC_11 k5 i6 ⟨by decide, Or.inl W_7_14⟩ dX12_freeOfLog_27 (.int (tI (σ) (x0) 35)) rfl ?_
      refine zx_isub C dX12_freeOfLog_30 ?_
      refine zx_iconst (v := 1) C dX12_freeOfLog_31 (by decide) ?_
      refine zx_isub C dX12_freeOfLog_32 ?_
      obtain ⟨n12, k10, i11, hm⟩ := ckR_e hm
      obtain ⟨h13, hm⟩ := ckI_e hm
      refine zx_iald C k10 i11 h13 dX12_freeOfLog_33 ?_
      refine zx_isub C dX12_freeOfLog_34 ?_
      refine zx_topi (fun y14 hy14 => ?_)
      replace hm := ltb_e hm hy14
      refine zx_istore_n C [(1, .int (y14)), (0, .ref (x0)), (2, .int (x2))] dX12_freeOfLog_35 rfl (by decide) rfl ?_
      obtain ⟨y15, hy15⟩ : ∃ z : Int32, z = (x2) + Int32.ofInt 1 := ⟨_, rfl⟩
      replace hm := ltb_e hm hy15
      refine zx_iinc C [(2, .int (y15)), (1, .int (y14)), (0, .ref (x0))] dX12_freeOfLog_36 2 rfl hy15.symm (by decide) rfl ?_
      refine zx_goto C 12 dX12_freeOfLog_39 (by decide) ?_
      exact zx_lv [2, 1, 0] [(0, .ref (x0)), (1, .int (y14)), (2, .int (y15))] rfl (hrc12 _ _ _ _ hm)
set_option maxRecDepth 100000 in
set_option maxHeartbeats 1000000 in
theorem c_X12_freeOfLog {l : Launch} {D : va_G} {aC : Nat → ClassId} {b0 fu : Nat} {a0 : Nat} {σ τ : tM} {v : Int32} (hm : m_X12_freeOfLog b0 fu a0 σ = some (v, τ)) : tMt l D aC b0 yX12_freeOfLog (Cond.code yX12_freeOfLog cX12_freeOfLog 3 (some .int)) 0 0 [.ref (a0)] σ (.inl (some (.int v))) τ := by
  unfold m_X12_freeOfLog at hm
  obtain ⟨hg, hm⟩ := grw_e hm
  refine tMt_of (n := 0) rfl (Nat.le_of_ble_eq_true rfl) hg ?_
  intro p e s m below meth c C htab hin
  refine zx_lv [0] [(0, .ref (a0))] rfl ?_
  refine zx_aload_n C dX12_freeOfLog_0 0 rfl ?_
  obtain ⟨k1, i2, hm⟩ := ckO_e hm
  refine zx_get (j := 6) C tC_11 k1 i2 ⟨by decide, Or.inl W_6_225⟩ dX12_freeOfLog_1 (.int (tI (σ) (a0) 6)) rfl ?_
  refine zx_topi (fun y3 hy3 => ?_)
  replace hm := ltb_e hm hy3
  refine zx_istore_n C [(1, .int (y3)), (0, .ref (a0))] dX12_freeOfLog_4 rfl (by decide) rfl ?_
  refine zx_aload_n C dX12_freeOfLog_5 1 rfl ?_
  refine zx_get (j := 32) C tC_11 k1 i2 ⟨by decide, Or.inl W_7_11⟩ dX12_freeOfLog_6 (.int (tI (σ) (a0) 32)) rfl ?_
  refine zx_iconst (v := 1) C dX12_freeOfLog_9 (by decide) ?_
  refine zx_iadd C dX12_freeOfLog_10 ?_
  refine zx_topi (fun y4 hy4 => ?_)
  replace hm := ltb_e hm hy4
  refine zx_istore_n C [(2, .int (y4)), (1, .int (y3)), (0, .ref (a0))] dX12_freeOfLog_11 rfl (by decide) rfl ?_
  exact zx_lv [2, 1, 0] [(0, .ref (a0)), (1, .int (y3)), (2, .int (y4))] rfl (l_X12_freeOfLog_12 C htab hin  _ _ _ _ _ hm)
abbrev cX12_list : ByteArray := prog_13_method_19_code
def yX12_list : MethodName := ⟨"SyncTreeModel", "list", "(I)V"⟩
theorem Y_X12_list : tY yX12_list cX12_list 2 none 1 := ⟨W_8_19, W_1_14, ⟨by decide +kernel, by decide +kernel⟩, by decide +kernel⟩
theorem dX12_list_0 : decode cX12_list 0 = .ok (.aload_n 0, 1) := by decide +kernel
theorem dX12_list_1 : decode cX12_list 1 = .ok (.getfield 131, 3) := by decide +kernel
theorem dX12_list_4 : decode cX12_list 4 = .ok (.aload_n 0, 1) := by decide +kernel
theorem dX12_list_5 : decode cX12_list 5 = .ok (.getfield 134, 3) := by decide +kernel
theorem dX12_list_8 : decode cX12_list 8 = .ok (.arraylength, 1) := by decide +kernel
theorem dX12_list_9 : decode cX12_list 9 = .ok (.if_icmp .ne 20, 3) := by decide +kernel
theorem dX12_list_12 : decode cX12_list 12 = .ok (.aload_n 0, 1) := by decide +kernel
theorem dX12_list_13 : decode cX12_list 13 = .ok (.aload_n 0, 1) := by decide +kernel
theorem dX12_list_14 : decode cX12_list 14 = .ok (.getfield 134, 3) := by decide +kernel
theorem dX12_list_17 : decode cX12_list 17 = .ok (.iconst 2, 1) := by decide +kernel
theorem dX12_list_18 : decode cX12_list 18 = .ok (.aload_n 0, 1) := by decide +kernel
theorem dX12_list_19 : decode cX12_list 19 = .ok (.getfield 131, 3) := by decide +kernel
theorem dX12_list_22 : decode cX12_list 22 = .ok (.imul, 1) := by decide +kernel
theorem dX12_list_23 : decode cX12_list 23 = .ok (.invokestatic 23, 3) := by decide +kernel
theorem dX12_list_26 : decode cX12_list 26 = .ok (.putfield 134, 3) := by decide +kernel
theorem dX12_list_29 : decode cX12_list 29 = .ok (.aload_n 0, 1) := by decide +kernel
theorem dX12_list_30 : decode cX12_list 30 = .ok (.getfield 134, 3) := by decide +kernel
theorem dX12_list_33 : decode cX12_list 33 = .ok (.aload_n 0, 1) := by decide +kernel
theorem dX12_list_34 : decode cX12_list 34 = .ok (.getfield 131, 3) := by decide +kernel
theorem dX12_list_37 : decode cX12_list 37 = .ok (.iload_n 1, 1) := by decide +kernel
theorem dX12_list_38 : decode cX12_list 38 = .ok (.iastore, 1) := by decide +kernel
theorem dX12_list_39 : decode cX12_list 39 = .ok (.aload_n 0, 1) := by decide +kernel
theorem dX12_list_40 : decode cX12_list 40 = .ok (.dup, 1) := by decide +kernel
theorem dX12_list_41 : decode cX12_list 41 = .ok (.getfield 131, 3) := by decide +kernel
theorem dX12_list_44 : decode cX12_list 44 = .ok (.iconst 1, 1) := by decide +kernel
theorem dX12_list_45 : decode cX12_list 45 = .ok (.iadd, 1) := by decide +kernel
theorem dX12_list_46 : decode cX12_list 46 = .ok (.putfield 131, 3) := by decide +kernel
theorem dX12_list_49 : decode cX12_list 49 = .ok (.return_, 1) := by decide +kernel
set_option maxRecDepth 100000 in
set_option maxHeartbeats 1000000 in
theorem j_X12_list_29 {p : Program} {l : Launch} {e : Env} {s : State} {m : MethodId} {args : Array Value} {below : List Frame} {meth : Method} {c : Code} {D : va_G} {aC : Nat → ClassId} {b0 fu : Nat} {σ0 τ : tM} {v : Unit}  (C : tCx p l s m args meth c yX12_list.cls cX12_list 2 none D aC b0 σ0) (htab : ∀ x ∈ c.exceptionTable.toList, False) (hin : meth.name = yX12_list.name)  {x0 : Nat} {x1 : Int32} {σ : tM} (hm : J_X12_list_29 b0 fu  x0 x1 σ = some (v, τ)) : tX p l e s m args below meth c 2 2 48 D aC b0 σ0 (.inl none) τ 29 [(0, .ref (x0)), (1, .int (x1))] [] σ := by
  unfold J_X12_list_29 at hm
  refine zx_aload_n C dX12_list_29 0 rfl ?_
  obtain ⟨k9, i10, hm⟩ := ckO_e hm
  obtain ⟨a11, h12, hm⟩ := osm_e hm
  refine zx_get (j := 44) C tC_11 k9 i10 ⟨by decide, Or.inl W_7_23⟩ dX12_list_30 (.ref a11) (rf_s h12) ?_
  refine zx_aload_n C dX12_list_33 0 rfl ?_
  refine zx_get (j := 45) C tC_11 k9 i10 ⟨by decide, Or.inl W_7_24⟩ dX12_list_34 (.int (tI (σ) (x0) 45)) rfl ?_
  refine zx_iload_n C dX12_list_37 1 rfl ?_
  obtain ⟨n15, k13, i14, hm⟩ := ckR_e hm
  obtain ⟨h16, hm⟩ := ckI_e hm
  refine zx_iast C k13 i14 h16 dX12_list_38 ?_
  refine zx_aload_n C dX12_list_39 0 rfl ?_
  refine zx_dup C dX12_list_40 rfl ?_
  refine zx_get (j := 45) C tC_11 k9 i10 ⟨by decide, Or.inl W_7_24⟩ dX12_list_41 (.int (tI (sI (σ) (a11) ((tI (σ) (x0) 45).toNatClampNeg) (x1)) (x0) 45)) rfl ?_
  refine zx_iconst (v := 1) C dX12_list_44 (by decide) ?_
  refine zx_iadd C dX12_list_45 ?_
  refine zx_put (j := 45) (ρ := sI (sI (σ) (a11) ((tI (σ) (x0) 45).toNatClampNeg) (x1)) (x0) 45 ((tI (sI (σ) (a11) ((tI (σ) (x0) 45).toNatClampNeg) (x1)) (x0) 45) + (1))) C tC_11 k9 i10 ⟨by decide, Or.inl W_7_24⟩ rfl rfl rfl (sI_ok (fun _ => rfl)) dX12_list_46 ?_
  obtain ⟨rfl, rfl⟩ := ret_e hm
  exact zx_vret C rfl rfl rfl dX12_list_49
set_option maxRecDepth 100000 in
set_option maxHeartbeats 1000000 in
theorem c_X12_list {l : Launch} {D : va_G} {aC : Nat → ClassId} {b0 fu : Nat} {a0 : Nat} {p0 : Int32} {σ τ : tM} {v : Unit} (hm : m_X12_list b0 fu a0 p0 σ = some (v, τ)) : tMt l D aC b0 yX12_list (Cond.code yX12_list cX12_list 2 none) 2 48 [.ref (a0), .int (p0)] σ (.inl none) τ := by
  unfold m_X12_list at hm
  obtain ⟨hg, hm⟩ := grw_e hm
  refine tMt_of (n := 0) rfl (Nat.le_of_ble_eq_true rfl) hg ?_
  intro p e s m below meth c C htab hin
  refine zx_lv [0, 1] [(0, .ref (a0)), (1, .int (p0))] rfl ?_
  refine zx_aload_n C dX12_list_0 0 rfl ?_
  obtain ⟨k1, i2, hm⟩ := ckO_e hm
  refine zx_get (j := 45) C tC_11 k1 i2 ⟨by decide, Or.inl W_7_24⟩ dX12_list_1 (.int (tI (σ) (a0) 45)) rfl ?_
  refine zx_aload_n C dX12_list_4 0 rfl ?_
  obtain ⟨a3, h4, hm⟩ := osm_e hm
  refine zx_get (j := 44) C tC_11 k1 i2 ⟨by decide, Or.inl W_7_23⟩ dX12_list_5 (.ref a3) (rf_s h4) ?_
  obtain ⟨n7, k5, i6, hm⟩ := ckR_e hm
  refine zx_alen C k5 (by decide) i6 dX12_list_8 ?_
  refine zx_icmp_ne C 29 dX12_list_9 (by decide) (fun c8 => ?_) (fun c8 => ?_)
  · replace hm := in_e hm c8
    exact zx_lv [0, 1] [(0, .ref (a0)), (1, .int (p0))] rfl (j_X12_list_29 C htab hin    hm)
  · replace hm := ip_e hm c8
    refine zx_aload_n C dX12_list_12 0 rfl ?_
    refine zx_aload_n C dX12_list_13 0 rfl ?_
    obtain ⟨a17, h18, hm⟩ := osm_e hm
    refine zx_get (j := 44) C tC_11 k1 i2 ⟨by decide, Or.inl W_7_23⟩ dX12_list_14 (.ref a17) (rf_s h18) ?_
    refine zx_iconst (v := 2) C dX12_list_17 (by decide) ?_
    refine zx_aload_n C dX12_list_18 0 rfl ?_
    refine zx_get (j := 45) C tC_11 k1 i2 ⟨by decide, Or.inl W_7_24⟩ dX12_list_19 (.int (tI (σ) (a0) 45)) rfl ?_
    refine zx_imul C dX12_list_22 ?_
    obtain ⟨v19, ρ20, h21, hm⟩ := cll_e hm
    obtain ⟨a22, h23, hm⟩ := osm_e hm
    subst h23
    refine zx_callS (σ := σ) C [.ref (a17), .int ((2) * (tI (σ) (a0) 45))] Y_X12_longer W_8_13 W_8_14 (c_X12_longer h21) (by decide) (by decide) rfl (Nat.le_of_ble_eq_true rfl) dX12_list_23 rfl ?_
    obtain ⟨k24, i25, hm⟩ := ckO_e hm
    refine zx_put (j := 44) (ρ := sA (ρ20) (a0) 44 (some (a22))) C tC_11 k24 i25 ⟨by decide, Or.inl W_7_23⟩ rfl rfl rfl (sA_ok (fun _ => rfl)) dX12_list_26 ?_
    exact zx_lv [0, 1] [(0, .ref (a0)), (1, .int (p0))] rfl (j_X12_list_29 C htab hin    hm)
