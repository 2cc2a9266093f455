abbrev cX12_version : ByteArray := prog_13_method_13_code
def yX12_version : MethodName := ⟨"SyncTreeModel", "version", "(III)V"⟩
theorem Y_X12_version : tY yX12_version cX12_version 5 none 3 := ⟨W_8_0, W_1_14, ⟨by decide +kernel, by decide +kernel⟩, by decide +kernel⟩
theorem dX12_version_0 : decode cX12_version 0 = .ok (.aload_n 0, 1) := by decide +kernel
theorem dX12_version_1 : decode cX12_version 1 = .ok (.invokevirtual 96, 3) := by decide +kernel
theorem dX12_version_4 : decode cX12_version 4 = .ok (.aload_n 0, 1) := by decide +kernel
theorem dX12_version_5 : decode cX12_version 5 = .ok (.getfield 93, 3) := by decide +kernel
theorem dX12_version_8 : decode cX12_version 8 = .ok (.sipush 256, 3) := by decide +kernel
theorem dX12_version_11 : decode cX12_version 11 = .ok (.if_icmp .ne 7, 3) := by decide +kernel
theorem dX12_version_14 : decode cX12_version 14 = .ok (.aload_n 0, 1) := by decide +kernel
theorem dX12_version_15 : decode cX12_version 15 = .ok (.invokevirtual 99, 3) := by decide +kernel
theorem dX12_version_18 : decode cX12_version 18 = .ok (.aload_n 0, 1) := by decide +kernel
theorem dX12_version_19 : decode cX12_version 19 = .ok (.getfield 87, 3) := by decide +kernel
theorem dX12_version_22 : decode cX12_version 22 = .ok (.aload_n 0, 1) := by decide +kernel
theorem dX12_version_23 : decode cX12_version 23 = .ok (.getfield 93, 3) := by decide +kernel
theorem dX12_version_26 : decode cX12_version 26 = .ok (.iadd, 1) := by decide +kernel
theorem dX12_version_27 : decode cX12_version 27 = .ok (.sipush 256, 3) := by decide +kernel
theorem dX12_version_30 : decode cX12_version 30 = .ok (.irem, 1) := by decide +kernel
theorem dX12_version_31 : decode cX12_version 31 = .ok (.istore 4, 2) := by decide +kernel
theorem dX12_version_33 : decode cX12_version 33 = .ok (.aload_n 0, 1) := by decide +kernel
theorem dX12_version_34 : decode cX12_version 34 = .ok (.getfield 65, 3) := by decide +kernel
theorem dX12_version_37 : decode cX12_version 37 = .ok (.iload 4, 2) := by decide +kernel
theorem dX12_version_39 : decode cX12_version 39 = .ok (.iload_n 1, 1) := by decide +kernel
theorem dX12_version_40 : decode cX12_version 40 = .ok (.iastore, 1) := by decide +kernel
theorem dX12_version_41 : decode cX12_version 41 = .ok (.aload_n 0, 1) := by decide +kernel
theorem dX12_version_42 : decode cX12_version 42 = .ok (.getfield 71, 3) := by decide +kernel
theorem dX12_version_45 : decode cX12_version 45 = .ok (.iload 4, 2) := by decide +kernel
theorem dX12_version_47 : decode cX12_version 47 = .ok (.iload_n 2, 1) := by decide +kernel
theorem dX12_version_48 : decode cX12_version 48 = .ok (.iastore, 1) := by decide +kernel
theorem dX12_version_49 : decode cX12_version 49 = .ok (.aload_n 0, 1) := by decide +kernel
theorem dX12_version_50 : decode cX12_version 50 = .ok (.getfield 77, 3) := by decide +kernel
theorem dX12_version_53 : decode cX12_version 53 = .ok (.iload 4, 2) := by decide +kernel
theorem dX12_version_55 : decode cX12_version 55 = .ok (.iload_n 3, 1) := by decide +kernel
theorem dX12_version_56 : decode cX12_version 56 = .ok (.iastore, 1) := by decide +kernel
theorem dX12_version_57 : decode cX12_version 57 = .ok (.iload_n 2, 1) := by decide +kernel
theorem dX12_version_58 : decode cX12_version 58 = .ok (.iconst 3, 1) := by decide +kernel
theorem dX12_version_59 : decode cX12_version 59 = .ok (.if_icmp .ne 36, 3) := by decide +kernel
theorem dX12_version_62 : decode cX12_version 62 = .ok (.aload_n 0, 1) := by decide +kernel
theorem dX12_version_63 : decode cX12_version 63 = .ok (.getfield 102, 3) := by decide +kernel
theorem dX12_version_66 : decode cX12_version 66 = .ok (.sipush 256, 3) := by decide +kernel
theorem dX12_version_69 : decode cX12_version 69 = .ok (.iload_n 1, 1) := by decide +kernel
theorem dX12_version_70 : decode cX12_version 70 = .ok (.bipush 34, 2) := by decide +kernel
theorem dX12_version_72 : decode cX12_version 72 = .ok (.isub, 1) := by decide +kernel
theorem dX12_version_73 : decode cX12_version 73 = .ok (.aload_n 0, 1) := by decide +kernel
theorem dX12_version_74 : decode cX12_version 74 = .ok (.getfield 38, 3) := by decide +kernel
theorem dX12_version_77 : decode cX12_version 77 = .ok (.isub, 1) := by decide +kernel
theorem dX12_version_78 : decode cX12_version 78 = .ok (.imul, 1) := by decide +kernel
theorem dX12_version_79 : decode cX12_version 79 = .ok (.aload_n 0, 1) := by decide +kernel
theorem dX12_version_80 : decode cX12_version 80 = .ok (.getfield 80, 3) := by decide +kernel
theorem dX12_version_83 : decode cX12_version 83 = .ok (.sipush 256, 3) := by decide +kernel
theorem dX12_version_86 : decode cX12_version 86 = .ok (.iload 4, 2) := by decide +kernel
theorem dX12_version_88 : decode cX12_version 88 = .ok (.imul, 1) := by decide +kernel
theorem dX12_version_89 : decode cX12_version 89 = .ok (.sipush 256, 3) := by decide +kernel
theorem dX12_version_92 : decode cX12_version 92 = .ok (.invokestatic 7, 3) := by decide +kernel
theorem dX12_version_95 : decode cX12_version 95 = .ok (.aload_n 0, 1) := by decide +kernel
theorem dX12_version_96 : decode cX12_version 96 = .ok (.dup, 1) := by decide +kernel
theorem dX12_version_97 : decode cX12_version 97 = .ok (.getfield 93, 3) := by decide +kernel
theorem dX12_version_100 : decode cX12_version 100 = .ok (.iconst 1, 1) := by decide +kernel
theorem dX12_version_101 : decode cX12_version 101 = .ok (.iadd, 1) := by decide +kernel
theorem dX12_version_102 : decode cX12_version 102 = .ok (.putfield 93, 3) := by decide +kernel
theorem dX12_version_105 : decode cX12_version 105 = .ok (.return_, 1) := by decide +kernel
set_option maxRecDepth 100000 in
set_option maxHeartbeats 1000000 in
theorem j_X12_version_95 {p : Program} {l : Launch} {e : Env} {s : State} {m : MethodId} {args : Array Value} {below : List Frame} {meth : Method} {c : Code} {D : va_G} {aC : Nat → ClassId} {b0 fu : Nat} {σ0 τ : tM} {v : (Unit) ⊕ Unit}  (C : tCx p l s m args meth c yX12_version.cls cX12_version 5 none D aC b0 σ0) (htab : ∀ x ∈ c.exceptionTable.toList, False) (hin : meth.name = yX12_version.name)  {x0 : Nat} {σ : tM} (hm : J_X12_version_95 b0 fu  x0 σ = some (v, τ)) : tX p l e s m args below meth c 5 3 68 D aC b0 σ0 (rxV "SyncTreeModel$Off" v) τ 95 [(0, .ref (x0))] [] σ := by
  unfold J_X12_version_95 at hm
  refine zx_aload_n C dX12_version_95 0 rfl ?_
  refine zx_dup C dX12_version_96 rfl ?_
  obtain ⟨k31, i32, hm⟩ := ckO_e hm
  refine zx_get (j := 16) C tC_11 k31 i32 ⟨by decide, Or.inl W_6_235⟩ dX12_version_97 (.int (tI (σ) (x0) 16)) rfl ?_
  refine zx_iconst (v := 1) C dX12_version_100 (by decide) ?_
  refine zx_iadd C dX12_version_101 ?_
  refine zx_put (j := 16) (ρ := sI (σ) (x0) 16 ((tI (σ) (x0) 16) + (1))) C tC_11 k31 i32 ⟨by decide, Or.inl W_6_235⟩ rfl rfl rfl (sI_ok (fun _ => rfl)) dX12_version_102 ?_
  obtain ⟨rfl, rfl⟩ := ret_e hm
  exact zx_vret C rfl rfl rfl dX12_version_105
set_option maxRecDepth 100000 in
set_option maxHeartbeats 1000000 in
theorem j_X12_version_18 {p : Program} {l : Launch} {e : Env} {s : State} {m : MethodId} {args : Array Value} {below : List Frame} {meth : Method} {c : Code} {D : va_G} {aC : Nat → ClassId} {b0 fu : Nat} {σ0 τ : tM} {v : (Unit) ⊕ Unit}  (C : tCx p l s m args meth c yX12_version.cls cX12_version 5 none D aC b0 σ0) (htab : ∀ x ∈ c.exceptionTable.toList, False) (hin : meth.name = yX12_version.name)  {x0 : Nat} {x1 : Int32} {x2 : Int32} {x3 : Int32} {σ : tM} (hm : J_X12_version_18 b0 fu  x0 x1 x2 x3 σ = some (v, τ)) : tX p l e s m args below meth c 5 3 68 D aC b0 σ0 (rxV "SyncTreeModel$Off" v) τ 18 [(0, .ref (x0)), (1, .int (x1)), (2, .int (x2)), (3, .int (x3))] [] σ := by
  unfold J_X12_version_18 at hm
  refine zx_aload_n C dX12_version_18 0 rfl ?_
  obtain ⟨k9, i10, hm⟩ := ckO_e hm
  refine zx_get (j := 15) C tC_11 k9 i10 ⟨by decide, Or.inl W_6_234⟩ dX12_version_19 (.int (tI (σ) (x0) 15)) rfl ?_
  refine zx_aload_n C dX12_version_22 0 rfl ?_
  refine zx_get (j := 16) C tC_11 k9 i10 ⟨by decide, Or.inl W_6_235⟩ dX12_version_23 (.int (tI (σ) (x0) 16)) rfl ?_
  refine zx_iadd C dX12_version_26 ?_
  refine zx_sipush (v := 256) C dX12_version_27 (by decide) ?_
  refine zx_irem C dX12_version_30 (by decide) ?_
  refine zx_topi (fun y11 hy11 => ?_)
  replace hm := ltb_e hm hy11
  refine zx_istore C [(4, .int (y11)), (0, .ref (x0)), (1, .int (x1)), (2, .int (x2)), (3, .int (x3))] dX12_version_31 (by decide) rfl ?_
  refine zx_aload_n C dX12_version_33 1 rfl ?_
  obtain ⟨a12, h13, hm⟩ := osm_e hm
  refine zx_get (j := 11) C tC_11 k9 i10 ⟨by decide, Or.inl W_6_230⟩ dX12_version_34 (.ref a12) (rf_s h13) ?_
  refine zx_iload C dX12_version_37 0 rfl ?_
  refine zx_iload_n C dX12_version_39 2 rfl ?_
  obtain ⟨n16, k14, i15, hm⟩ := ckR_e hm
  obtain ⟨h17, hm⟩ := ckI_e hm
  refine zx_iast C k14 i15 h17 dX12_version_40 ?_
  refine zx_aload_n C dX12_version_41 1 rfl ?_
  obtain ⟨a18, h19, hm⟩ := osm_e hm
  refine zx_get (j := 12) C tC_11 k9 i10 ⟨by decide, Or.inl W_6_231⟩ dX12_version_42 (.ref a18) (rf_s h19) ?_
  refine zx_iload C dX12_version_45 0 rfl ?_
  refine zx_iload_n C dX12_version_47 3 rfl ?_
  obtain ⟨n22, k20, i21, hm⟩ := ckR_e hm
  obtain ⟨h23, hm⟩ := ckI_e hm
  refine zx_iast C k20 i21 h23 dX12_version_48 ?_
  refine zx_aload_n C dX12_version_49 1 rfl ?_
  obtain ⟨a24, h25, hm⟩ := osm_e hm
  refine zx_get (j := 13) C tC_11 k9 i10 ⟨by decide, Or.inl W_6_232⟩ dX12_version_50 (.ref a24) (rf_s h25) ?_
  refine zx_iload C dX12_version_53 0 rfl ?_
  refine zx_iload_n C dX12_version_55 4 rfl ?_
  obtain ⟨n28, k26, i27, hm⟩ := ckR_e hm
  obtain ⟨h29, hm⟩ := ckI_e hm
  refine zx_iast C k26 i27 h29 dX12_version_56 ?_
  refine zx_iload_n C dX12_version_57 3 rfl ?_
  refine zx_iconst (v := 3) C dX12_version_58 (by decide) ?_
  refine zx_icmp_ne C 95 dX12_version_59 (by decide) (fun c30 => ?_) (fun c30 => ?_)
  · replace hm := in_e hm c30
    exact zx_lv [1] [(0, .ref (x0))] rfl (j_X12_version_95 C htab hin    hm)
  · replace hm := ip_e hm c30
    refine zx_aload_n C dX12_version_62 1 rfl ?_
    obtain ⟨a33, h34, hm⟩ := osm_e hm
    refine zx_get (j := 22) C tC_11 k9 i10 ⟨by decide, Or.inl W_7_1⟩ dX12_version_63 (.ref a33) (rf_s h34) ?_
    refine zx_sipush (v := 256) C dX12_version_66 (by decide) ?_
    refine zx_iload_n C dX12_version_69 2 rfl ?_
    refine zx_bipush (v := 34) C dX12_version_70 (by decide) ?_
    refine zx_isub C dX12_version_72 ?_
    refine zx_aload_n C dX12_version_73 1 rfl ?_
    refine zx_get (j := 6) C tC_11 k9 i10 ⟨by decide, Or.inl W_6_225⟩ dX12_version_74 (.int (tI (sI (sI (sI (σ) (a12) ((y11).toNatClampNeg) (x1)) (a18) ((y11).toNatClampNeg) (x2)) (a24) ((y11).toNatClampNeg) (x3)) (x0) 6)) rfl ?_
    refine zx_isub C dX12_version_77 ?_
    refine zx_imul C dX12_version_78 ?_
    refine zx_aload_n C dX12_version_79 1 rfl ?_
    obtain ⟨a35, h36, hm⟩ := osm_e hm
    refine zx_get (j := 14) C tC_11 k9 i10 ⟨by decide, Or.inl W_6_233⟩ dX12_version_80 (.ref a35) (rf_s h36) ?_
    refine zx_sipush (v := 256) C dX12_version_83 (by decide) ?_
    refine zx_iload C dX12_version_86 0 rfl ?_
    refine zx_imul C dX12_version_88 ?_
    refine zx_sipush (v := 256) C dX12_version_89 (by decide) ?_
    obtain ⟨n39, k37, i38, hm⟩ := ckR_e hm
    obtain ⟨n42, k40, i41, hm⟩ := ckR_e hm
    obtain ⟨h43, hm⟩ := ckC_e hm
    obtain ⟨h57, hm⟩ := ckF_e hm
    refine zx_copyB (σ := sI (sI (sI (σ) (a12) ((y11).toNatClampNeg) (x1)) (a18) ((y11).toNatClampNeg) (x2)) (a24) ((y11).toNatClampNeg) (x3)) C W_7_169 W_2_135 W_2_134 W_1_11 k37 i38 k40 i41 h43 h57 (by decide) (by decide) (Nat.le_of_ble_eq_true rfl) dX12_version_92 ?_
    refine zx_mem (fun ρ44 hρ44 => ?_)
    replace hm := ltb_e hm hρ44
    have k45 : tk ρ44 (x0) = .inl 11 := by rw [hρ44]; exact k9
    have i46 : tIn b0 ρ44 (x0) := by rw [hρ44]; exact i10
    have k47 : tk ρ44 (a12) = .inr (0, n16) := by rw [hρ44]; exact k14
    have i48 : tIn b0 ρ44 (a12) := by rw [hρ44]; exact i15
    have k49 : tk ρ44 (a18) = .inr (0, n22) := by rw [hρ44]; exact k20
    have i50 : tIn b0 ρ44 (a18) := by rw [hρ44]; exact i21
    have k51 : tk ρ44 (a24) = .inr (0, n28) := by rw [hρ44]; exact k26
    have i52 : tIn b0 ρ44 (a24) := by rw [hρ44]; exact i27
    have k53 : tk ρ44 (a33) = .inr (1, n39) := by rw [hρ44]; exact k37
    have i54 : tIn b0 ρ44 (a33) := by rw [hρ44]; exact i38
    have k55 : tk ρ44 (a35) = .inr (1, n42) := by rw [hρ44]; exact k40
    have i56 : tIn b0 ρ44 (a35) := by rw [hρ44]; exact i41
    exact zx_lv [1] [(0, .ref (x0))] rfl (j_X12_version_95 C htab hin    hm)
set_option maxRecDepth 100000 in
set_option maxHeartbeats 1000000 in
theorem c_X12_version {l : Launch} {D : va_G} {aC : Nat → ClassId} {b0 fu : Nat} {a0 : Nat} {p0 : Int32} {p1 : Int32} {p2 : Int32} {σ τ : tM} {v : (Unit) ⊕ Unit} (hm : m_X12_version b0 fu a0 p0 p1 p2 σ = some (v, τ)) : tMt l D aC b0 yX12_version (Cond.code yX12_version cX12_version 5 none) 3 68 [.ref (a0), .int (p0), .int (p1), .int (p2)] σ (rxV "SyncTreeModel$Off" v) τ := by
  unfold m_X12_version at hm
  obtain ⟨hg, hm⟩ := grw_e hm
  refine tMt_of (n := 0) rfl (Nat.le_of_ble_eq_true rfl) hg ?_
  intro p e s m below meth c C htab hin
  refine zx_lv [0, 1, 2, 3] [(0, .ref (a0)), (1, .int (p0)), (2, .int (p1)), (3, .int (p2))] rfl ?_
  refine zx_aload_n C dX12_version_0 0 rfl ?_
  obtain ⟨k1, i2, hm⟩ := ckO_e hm
  rcases clx_e hm with ⟨v3, ρ4, h5, hm⟩ | ⟨ρ4, h5, hm⟩
  · refine zx_callV (σ := σ) C [] tC_11 k1 i2 Y_X12_act W_7_216 W_7_218 Wp_65 (c_X12_act h5) (by decide) (by decide) rfl (Nat.le_of_ble_eq_true rfl) dX12_version_1 rfl ?_
    refine zx_aload_n C dX12_version_4 0 rfl ?_
    obtain ⟨k6, i7, hm⟩ := ckO_e hm
    refine zx_get (j := 16) C tC_11 k6 i7 ⟨by decide, Or.inl W_6_235⟩ dX12_version_5 (.int (tI (ρ4) (a0) 16)) rfl ?_
    refine zx_sipush (v := 256) C dX12_version_8 (by decide) ?_
    refine zx_icmp_ne C 18 dX12_version_11 (by decide) (fun c8 => ?_) (fun c8 => ?_)
    · replace hm := in_e hm c8
      exact zx_lv [0, 1, 2, 3] [(0, .ref (a0)), (1, .int (p0)), (2, .int (p1)), (3, .int (p2))] rfl (j_X12_version_18 C htab hin    hm)
    · replace hm := ip_e hm c8
      refine zx_aload_n C dX12_version_14 0 rfl ?_
      obtain ⟨v59, ρ60, h61, hm⟩ := cll_e hm
      refine zx_callV (σ := ρ4) C [] tC_11 k6 i7 Y_X12_keepOldest W_7_224 W_7_226 Wp_67 (c_X12_keepOldest h61) (by decide) (by decide) rfl (Nat.le_of_ble_eq_true rfl) dX12_version_15 rfl ?_
      exact zx_lv [0, 1, 2, 3] [(0, .ref (a0)), (1, .int (p0)), (2, .int (p1)), (3, .int (p2))] rfl (j_X12_version_18 C htab hin    hm)
  · cases hm
    exact zx_outV (σ := σ) C htab [] tC_11 k1 i2 Y_X12_act W_7_216 W_7_218 Wp_65 (c_X12_act h5) rfl (by decide) (by decide) rfl (Nat.le_of_ble_eq_true rfl) dX12_version_1 rfl
abbrev cX12_flushAct : ByteArray := prog_13_method_14_code
def yX12_flushAct : MethodName := ⟨"SyncTreeModel", "flushAct", "()V"⟩
theorem Y_X12_flushAct : tY yX12_flushAct cX12_flushAct 1 none 0 := ⟨W_7_215, W_1_14, ⟨by decide +kernel, by decide +kernel⟩, by decide +kernel⟩
theorem dX12_flushAct_0 : decode cX12_flushAct 0 = .ok (.aload_n 0, 1) := by decide +kernel
theorem dX12_flushAct_1 : decode cX12_flushAct 1 = .ok (.invokevirtual 96, 3) := by decide +kernel
theorem dX12_flushAct_4 : decode cX12_flushAct 4 = .ok (.aload_n 0, 1) := by decide +kernel
theorem dX12_flushAct_5 : decode cX12_flushAct 5 = .ok (.getfield 93, 3) := by decide +kernel
theorem dX12_flushAct_8 : decode cX12_flushAct 8 = .ok (.ifCond .le 10, 3) := by decide +kernel
theorem dX12_flushAct_11 : decode cX12_flushAct 11 = .ok (.aload_n 0, 1) := by decide +kernel
theorem dX12_flushAct_12 : decode cX12_flushAct 12 = .ok (.invokevirtual 99, 3) := by decide +kernel
theorem dX12_flushAct_15 : decode cX12_flushAct 15 = .ok (.goto (-11), 3) := by decide +kernel
theorem dX12_flushAct_18 : decode cX12_flushAct 18 = .ok (.aload_n 0, 1) := by decide +kernel
theorem dX12_flushAct_19 : decode cX12_flushAct 19 = .ok (.dup, 1) := by decide +kernel
theorem dX12_flushAct_20 : decode cX12_flushAct 20 = .ok (.getfield 105, 3) := by decide +kernel
theorem dX12_flushAct_23 : decode cX12_flushAct 23 = .ok (.iconst 1, 1) := by decide +kernel
theorem dX12_flushAct_24 : decode cX12_flushAct 24 = .ok (.iadd, 1) := by decide +kernel
theorem dX12_flushAct_25 : decode cX12_flushAct 25 = .ok (.putfield 105, 3) := by decide +kernel
theorem dX12_flushAct_28 : decode cX12_flushAct 28 = .ok (.return_, 1) := by decide +kernel
set_option maxRecDepth 100000 in
set_option maxHeartbeats 1000000 in
theorem l_X12_flushAct_4 {p : Program} {l : Launch} {e : Env} {s : State} {m : MethodId} {args : Array Value} {below : List Frame} {meth : Method} {c : Code} {D : va_G} {aC : Nat → ClassId} {b0 fu : Nat} {σ0 τ : tM} {v : (Unit) ⊕ Unit}  (C : tCx p l s m args meth c yX12_flushAct.cls cX12_flushAct 1 none D aC b0 σ0) (htab : ∀ x ∈ c.exceptionTable.toList, False) (hin : meth.name = yX12_flushAct.name)  : ∀ (n : Nat) (x0 : Nat) (σ : tM), L_X12_flushAct_4 b0 fu  n x0 σ = some (v, τ) → tX p l e s m args below meth c 1 3 68 D aC b0 σ0 (rxV "SyncTreeModel$Off" v) τ 4 [(0, .ref (x0))] [] σ := by
  intro n
  induction n with
  | zero => intro x0 σ hm; unfold L_X12_flushAct_4 at hm; cases hm
  | succ n ih =>
    intro x0 σ hm
    unfold L_X12_flushAct_4 at hm
    obtain ⟨rc4, hrc⟩ : ∃ z, z = L_X12_flushAct_4 b0 fu  n := ⟨_, rfl⟩
    replace hm := ltb_e hm hrc
    rw [← hrc] at ih
    have hrc4 := ih
    clear ih hrc
    refine zx_aload_n C dX12_flushAct_4 0 rfl ?_
    obtain ⟨k6, i7, hm⟩ := ckO_e hm
    refine zx_get (j := 16) C tC_11 k6 i7 ⟨by decide, Or.inl W_6_235⟩ dX12_flushAct_5 (.int (tI (σ) (x0) 16)) rfl ?_
    refine zx_if_le C 18 dX12_flushAct_8 (by decide) (fun c8 => ?_) (fun c8 => ?_)
    · replace hm := ip_e hm c8
      refine zx_aload_n C dX12_flushAct_18 0 rfl ?_
      refine zx_dup C dX12_flushAct_19 rfl ?_
      refine zx_get (j := 21) C tC_11 k6 i7 ⟨by decide, Or.inl W_7_0⟩ dX12_flushAct_20 (.int (tI (σ) (x0) 21)) rfl ?_
      refine zx_iconst (v := 1) C dX12_flushAct_23 (by decide) ?_
      refine zx_iadd C dX12_flushAct_24 ?_
      refine zx_put (j := 21) (ρ := sI (σ) (x0) 21 ((tI (σ) (x0) 21) + (1))) C tC_11 k6 i7 ⟨by decide, Or.inl W_7_0⟩ rfl rfl rfl (sI_ok (fun _ => rfl)) dX12_flushAct_25 ?_
      obtain ⟨rfl, rfl⟩ := ret_e hm
      exact zx_vret C rfl rfl rfl dX12_flushAct_28
    · replace hm := in_e hm c8
      refine zx_aload_n C dX12_flushAct_11 0 rfl ?_
      obtain ⟨v9, ρ10, h11, hm⟩ := cll_e hm
      refine zx_callV (σ := σ) C [] tC_11 k6 i7 Y_X12_keepOldest W_7_224 W_7_226 Wp_67 (c_X12_keepOldest h11) (by decide) (by decide) rfl (Nat.le_of_ble_eq_true rfl) dX12_flushAct_12 rfl ?_
      refine zx_goto C 4 dX12_flushAct_15 (by decide) ?_
      exact zx_lv [0] [(0, .ref (x0))] rfl (hrc4 _ _ hm)
set_option maxRecDepth 100000 in
set_option maxHeartbeats 1000000 in
theorem c_X12_flushAct {l : Launch} {D : va_G} {aC : Nat → ClassId} {b0 fu : Nat} {a0 : Nat} {σ τ : tM} {v : (Unit) ⊕ Unit} (hm : m_X12_flushAct b0 fu a0 σ = some (v, τ)) : tMt l D aC b0 yX12_flushAct (Cond.code yX12_flushAct cX12_flushAct 1 none) 3 68 [.ref (a0)] σ (rxV "SyncTreeModel$Off" v) τ := by
  unfold m_X12_flushAct at hm
  obtain ⟨hg, hm⟩ := grw_e hm
  refine tMt_of (n := 0) rfl (Nat.le_of_ble_eq_true rfl) hg ?_
  intro p e s m below meth c C htab hin
  refine zx_lv [0] [(0, .ref (a0))] rfl ?_
  refine zx_aload_n C dX12_flushAct_0 0 rfl ?_
  obtain ⟨k1, i2, hm⟩ := ckO_e hm
  rcases clx_e hm with ⟨v3, ρ4, h5, hm⟩ | ⟨ρ4, h5, hm⟩
  · refine zx_callV (σ := σ) C [] tC_11 k1 i2 Y_X12_act W_7_216 W_7_218 Wp_65 (c_X12_act h5) (by decide) (by decide) rfl (Nat.le_of_ble_eq_true rfl) dX12_flushAct_1 rfl ?_
    exact zx_lv [0] [(0, .ref (a0))] rfl (l_X12_flushAct_4 C htab hin  _ _ _ hm)
  · cases hm
    exact zx_outV (σ := σ) C htab [] tC_11 k1 i2 Y_X12_act W_7_216 W_7_218 Wp_65 (c_X12_act h5) rfl (by decide) (by decide) rfl (Nat.le_of_ble_eq_true rfl) dX12_flushAct_1 rfl
abbrev cX12_flush : ByteArray := prog_13_method_23_code
def yX12_flush : MethodName := ⟨"SyncTreeModel", "flush", "()V"⟩
theorem Y_X12_flush : tY yX12_flush cX12_flush 2 none 0 := ⟨W_7_211, W_1_14, ⟨by decide +kernel, by decide +kernel⟩, by decide +kernel⟩
theorem dX12_flush_0 : decode cX12_flush 0 = .ok (.aload_n 0, 1) := by decide +kernel
theorem dX12_flush_1 : decode cX12_flush 1 = .ok (.invokevirtual 196, 3) := by decide +kernel
theorem dX12_flush_4 : decode cX12_flush 4 = .ok (.aload_n 0, 1) := by decide +kernel
theorem dX12_flush_5 : decode cX12_flush 5 = .ok (.aload_n 0, 1) := by decide +kernel
theorem dX12_flush_6 : decode cX12_flush 6 = .ok (.getfield 122, 3) := by decide +kernel
theorem dX12_flush_9 : decode cX12_flush 9 = .ok (.putfield 199, 3) := by decide +kernel
theorem dX12_flush_12 : decode cX12_flush 12 = .ok (.aload_n 0, 1) := by decide +kernel
theorem dX12_flush_13 : decode cX12_flush 13 = .ok (.aload_n 0, 1) := by decide +kernel
theorem dX12_flush_14 : decode cX12_flush 14 = .ok (.getfield 202, 3) := by decide +kernel
theorem dX12_flush_17 : decode cX12_flush 17 = .ok (.putfield 119, 3) := by decide +kernel
theorem dX12_flush_20 : decode cX12_flush 20 = .ok (.iconst 0, 1) := by decide +kernel
theorem dX12_flush_21 : decode cX12_flush 21 = .ok (.istore_n 1, 1) := by decide +kernel
theorem dX12_flush_22 : decode cX12_flush 22 = .ok (.iload_n 1, 1) := by decide +kernel
theorem dX12_flush_23 : decode cX12_flush 23 = .ok (.aload_n 0, 1) := by decide +kernel
theorem dX12_flush_24 : decode cX12_flush 24 = .ok (.getfield 41, 3) := by decide +kernel
theorem dX12_flush_27 : decode cX12_flush 27 = .ok (.if_icmp .ge 41, 3) := by decide +kernel
theorem dX12_flush_30 : decode cX12_flush 30 = .ok (.aload_n 0, 1) := by decide +kernel
theorem dX12_flush_31 : decode cX12_flush 31 = .ok (.getfield 190, 3) := by decide +kernel
theorem dX12_flush_34 : decode cX12_flush 34 = .ok (.iload_n 1, 1) := by decide +kernel
theorem dX12_flush_35 : decode cX12_flush 35 = .ok (.iaload, 1) := by decide +kernel
theorem dX12_flush_36 : decode cX12_flush 36 = .ok (.iconst 1, 1) := by decide +kernel
theorem dX12_flush_37 : decode cX12_flush 37 = .ok (.if_icmp .le 25, 3) := by decide +kernel
theorem dX12_flush_40 : decode cX12_flush 40 = .ok (.aload_n 0, 1) := by decide +kernel
theorem dX12_flush_41 : decode cX12_flush 41 = .ok (.getfield 190, 3) := by decide +kernel
theorem dX12_flush_44 : decode cX12_flush 44 = .ok (.iload_n 1, 1) := by decide +kernel
theorem dX12_flush_45 : decode cX12_flush 45 = .ok (.iaload, 1) := by decide +kernel
theorem dX12_flush_46 : decode cX12_flush 46 = .ok (.iconst 1, 1) := by decide +kernel
theorem dX12_flush_47 : decode cX12_flush 47 = .ok (.isub, 1) := by decide +kernel
theorem dX12_flush_48 : decode cX12_flush 48 = .ok (.aload_n 0, 1) := by decide +kernel
theorem dX12_flush_49 : decode cX12_flush 49 = .ok (.getfield 199, 3) := by decide +kernel
theorem dX12_flush_52 : decode cX12_flush 52 = .ok (.if_icmp .gt 10, 3) := by decide +kernel
theorem dX12_flush_55 : decode cX12_flush 55 = .ok (.aload_n 0, 1) := by decide +kernel
theorem dX12_flush_56 : decode cX12_flush 56 = .ok (.getfield 190, 3) := by decide +kernel
theorem dX12_flush_59 : decode cX12_flush 59 = .ok (.iload_n 1, 1) := by decide +kernel
theorem dX12_flush_60 : decode cX12_flush 60 = .ok (.iconst 0, 1) := by decide +kernel
theorem dX12_flush_61 : decode cX12_flush 61 = .ok (.iastore, 1) := by decide +kernel
theorem dX12_flush_62 : decode cX12_flush 62 = .ok (.iinc 1 1, 3) := by decide +kernel
theorem dX12_flush_65 : decode cX12_flush 65 = .ok (.goto (-43), 3) := by decide +kernel
theorem dX12_flush_68 : decode cX12_flush 68 = .ok (.aload_n 0, 1) := by decide +kernel
theorem dX12_flush_69 : decode cX12_flush 69 = .ok (.invokevirtual 205, 3) := by decide +kernel
theorem dX12_flush_72 : decode cX12_flush 72 = .ok (.aload_n 0, 1) := by decide +kernel
theorem dX12_flush_73 : decode cX12_flush 73 = .ok (.getfield 208, 3) := by decide +kernel
theorem dX12_flush_76 : decode cX12_flush 76 = .ok (.aload_n 0, 1) := by decide +kernel
theorem dX12_flush_77 : decode cX12_flush 77 = .ok (.getfield 202, 3) := by decide +kernel
theorem dX12_flush_80 : decode cX12_flush 80 = .ok (.if_icmp .le 21, 3) := by decide +kernel
theorem dX12_flush_83 : decode cX12_flush 83 = .ok (.aload_n 0, 1) := by decide +kernel
theorem dX12_flush_84 : decode cX12_flush 84 = .ok (.aload_n 0, 1) := by decide +kernel
theorem dX12_flush_85 : decode cX12_flush 85 = .ok (.getfield 208, 3) := by decide +kernel
theorem dX12_flush_88 : decode cX12_flush 88 = .ok (.putfield 202, 3) := by decide +kernel
theorem dX12_flush_91 : decode cX12_flush 91 = .ok (.aload_n 0, 1) := by decide +kernel
theorem dX12_flush_92 : decode cX12_flush 92 = .ok (.iconst 0, 1) := by decide +kernel
theorem dX12_flush_93 : decode cX12_flush 93 = .ok (.iconst 1, 1) := by decide +kernel
theorem dX12_flush_94 : decode cX12_flush 94 = .ok (.aload_n 0, 1) := by decide +kernel
theorem dX12_flush_95 : decode cX12_flush 95 = .ok (.getfield 202, 3) := by decide +kernel
theorem dX12_flush_98 : decode cX12_flush 98 = .ok (.invokevirtual 183, 3) := by decide +kernel
theorem dX12_flush_101 : decode cX12_flush 101 = .ok (.return_, 1) := by decide +kernel
set_option maxRecDepth 100000 in
set_option maxHeartbeats 1000000 in
theorem j_X12_flush_101 {p : Program} {l : Launch} {e : Env} {s : State} {m : MethodId} {args : Array Value} {below : List Frame} {meth : Method} {c : Code} {D : va_G} {aC : Nat → ClassId} {b0 fu : Nat} {σ0 τ : tM} {v : (Unit) ⊕ Unit}  (C : tCx p l s m args meth c yX12_flush.cls cX12_flush 2 none D aC b0 σ0) (htab : ∀ x ∈ c.exceptionTable.toList, False) (hin : meth.name = yX12_flush.name)   {σ : tM} (hm : J_X12_flush_101 b0 fu   σ = some (v, τ)) : tX p l e s m args below meth c 2 4 92 D aC b0 σ0 (rxV "SyncTreeModel$Off" v) τ 101 [] [] σ := by
  unfold J_X12_flush_101 at hm
  obtain ⟨rfl, rfl⟩ := ret_e hm
  exact zx_vret C rfl rfl rfl dX12_flush_101
set_option maxRecDepth 100000 in
set_option maxHeartbeats 1000000 in
theorem j_X12_flush_62 {p : Program} {l : Launch} {e : Env} {s : State} {m : MethodId} {args : Array Value} {below : List Frame} {meth : Method} {c : Code} {D : va_G} {aC : Nat → ClassId} {b0 fu : Nat} {σ0 τ : tM} {v : (Unit) ⊕ Unit} {rc22 : Nat → Int32 → tM → Option (((Unit) ⊕ Unit) × tM)} (C : tCx p l s m args meth c yX12_flush.cls cX12_flush 2 none D aC b0 σ0) (htab : ∀ x ∈ c.exceptionTable.toList, False) (hin : meth.name = yX12_flush.name) (hrc22 : ∀ (x0 : Nat) (x1 : Int32) (ρ : tM), rc22 x0 x1 ρ = some (v, τ) → tX p l e s m args below meth c 2 4 92 D aC b0 σ0 (rxV "SyncTreeModel$Off" v) τ 22 [(0, .ref (x0)), (1, .int (x1))] [] ρ) {x0 : Nat} {x1 : Int32} {σ : tM} (hm : J_X12_flush_62 b0 fu rc22 x0 x1 σ = some (v, τ)) : tX p l e s m args below meth c 2 4 92 D aC b0 σ0 (rxV "SyncTreeModel$Off" v) τ 62 [(0, .ref (x0)), (1, .int (x1))] [] σ := by
  unfold J_X12_flush_62 at hm
  obtain ⟨y28, hy28⟩ : ∃ z : Int32, z = (x1) + Int32.ofInt 1 := ⟨_, rfl⟩
  replace hm := ltb_e hm hy28
  refine zx_iinc C [(1, .int (y28)), (0, .ref (x0))] dX12_flush_62 1 rfl hy28.symm (by decide) rfl ?_
  refine zx_goto C 22 dX12_flush_65 (by decide) ?_
  exact zx_lv [1, 0] [(0, .ref (x0)), (1, .int (y28))] rfl (hrc22 _ _ _ hm)
set_option maxRecDepth 100000 in
set_option maxHeartbeats 1000000 in
theorem l_X12_flush_22 {p : Program} {l : Launch} {e : Env} {s : State} {m : MethodId} {args : Array Value} {below : List Frame} {meth : Method} {c : Code} {D : va_G} {aC : Nat → ClassId} {b0 fu : Nat} {σ0 τ : tM} {v : (Unit) ⊕ Unit}  (C : tCx p l s m args meth c yX12_flush.cls cX12_flush 2 none D aC b0 σ0) (htab : ∀ x ∈ c.exceptionTable.toList, False) (hin : meth.name = yX12_flush.name)  : ∀ (n : Nat) (x0 : Nat) (x1 : Int32) (σ : tM), L_X12_flush_22 b0 fu  n x0 x1 σ = some (v, τ) → tX p l e s m args below meth c 2 4 92 D aC b0 σ0 (rxV "SyncTreeModel$Off" v) τ 22 [(0, .ref (x0)), (1, .int (x1))] [] σ := by
  intro n
  induction n with
  | zero => intro x0 x1 σ hm; unfold L_X12_flush_22 at hm; cases hm
  | succ n ih =>
    intro x0 x1 σ hm
    unfold L_X12_flush_22 at hm
    obtain ⟨rc22, hrc⟩ : ∃ z, z = L_X12_flush_22 b0 fu  n := ⟨_, rfl⟩
    replace hm := ltb_e hm hrc
    rw [← hrc] at ih
    have hrc22 := ih
    clear ih hrc
    refine zx_iload_n C dX12_flush_22 1 rfl ?_
    refine zx_aload_n C dX12_flush_23 0 rfl ?_
    obtain ⟨k8, i9, hm⟩ := ckO_e hm
    refine zx_get (j := 7) C tC_11 k8 i9 ⟨by decide, Or.inl W_6_226⟩ dX12_flush_24 (.int (tI (σ) (x0) 7)) rfl ?_
    refine zx_icmp_ge C 68 dX12_flush_27 (by decide) (fun c10 => ?_) (fun c10 => ?_)
    · replace hm := ip_e hm c10
      refine zx_aload_n C dX12_flush_68 0 rfl ?_
      obtain ⟨v11, ρ12, h13, hm⟩ := cll_e hm
      refine zx_callV (σ := σ) C [] tC_11 k8 i9 Y_X12_forget W_7_232 W_7_234 Wp_69 (c_X12_forget h13) (by decide) (by decide) rfl (Nat.le_of_ble_eq_true rfl) dX12_flush_69 rfl ?_
      refine zx_aload_n C dX12_flush_72 0 rfl ?_
      obtain ⟨k14, i15, hm⟩ := ckO_e hm
      refine zx_get (j := 30) C tC_11 k14 i15 ⟨by decide, Or.inl W_7_9⟩ dX12_flush_73 (.int (tI (ρ12) (x0) 30)) rfl ?_
      refine zx_aload_n C dX12_flush_76 0 rfl ?_
      refine zx_get (j := 31) C tC_11 k14 i15 ⟨by decide, Or.inl W_7_10⟩ dX12_flush_77 (.int (tI (ρ12) (x0) 31)) rfl ?_
      refine zx_icmp_le C 101 dX12_flush_80 (by decide) (fun c16 => ?_) (fun c16 => ?_)
      · replace hm := ip_e hm c16
        exact zx_lv [] [] rfl (j_X12_flush_101 C htab hin    hm)
      · replace hm := in_e hm c16
        refine zx_aload_n C dX12_flush_83 0 rfl ?_
        refine zx_aload_n C dX12_flush_84 0 rfl ?_
        refine zx_get (j := 30) C tC_11 k14 i15 ⟨by decide, Or.inl W_7_9⟩ dX12_flush_85 (.int (tI (ρ12) (x0) 30)) rfl ?_
        refine zx_put (j := 31) (ρ := sI (ρ12) (x0) 31 (tI (ρ12) (x0) 30)) C tC_11 k14 i15 ⟨by decide, Or.inl W_7_10⟩ rfl rfl rfl (sI_ok (fun _ => rfl)) dX12_flush_88 ?_
        refine zx_aload_n C dX12_flush_91 0 rfl ?_
        refine zx_iconst (v := 0) C dX12_flush_92 (by decide) ?_
        refine zx_iconst (v := 1) C dX12_flush_93 (by decide) ?_
        refine zx_aload_n C dX12_flush_94 0 rfl ?_
        refine zx_get (j := 31) C tC_11 k14 i15 ⟨by decide, Or.inl W_7_10⟩ dX12_flush_95 (.int (tI (sI (ρ12) (x0) 31 (tI (ρ12) (x0) 30)) (x0) 31)) rfl ?_
        rcases clx_e hm with ⟨v17, ρ18, h19, hm⟩ | ⟨ρ18, h19, hm⟩
        · refine zx_callV (σ := sI (ρ12) (x0) 31 (tI (ρ12) (x0) 30)) C [.int (0), .int (1), .int (tI (sI (ρ12) (x0) 31 (tI (ρ12) (x0) 30)) (x0) 31)] tC_11 k14 i15 Y_X12_version W_7_237 W_7_239 Wp_70 (c_X12_version h19) (by decide) (by decide) rfl (Nat.le_of_ble_eq_true rfl) dX12_flush_98 rfl ?_
          exact zx_lv [] [] rfl (j_X12_flush_101 C htab hin    hm)
        · cases hm
          exact zx_outV (σ := sI (ρ12) (x0) 31 (tI (ρ12) (x0) 30)) C htab [.int (0), .int (1), .int (tI (sI (ρ12) (x0) 31 (tI (ρ12) (x0) 30)) (x0) 31)] tC_11 k14 i15 Y_X12_version W_7_237 W_7_239 Wp_70 (c_X12_version h19) rfl (by decide) (by decide) rfl (Nat.le_of_ble_eq_true rfl) dX12_flush_98 rfl
    · replace hm := in_e hm c10
      refine zx_aload_n C dX12_flush_30 0 rfl ?_
      obtain ⟨a21, h22, hm⟩ := osm_e hm
      refine zx_get (j := 24) C tC_11 k8 i9 ⟨by decide, Or.inl W_7_3⟩ dX12_flush_31 (.ref a21) (rf_s h22) ?_
      refine zx_iload_n C dX12_flush_34 1 rfl ?_
      obtain ⟨n25, k23, i24, hm⟩ := ckR_e hm
      obtain ⟨h26, hm⟩ := ckI_e hm
      refine zx_iald C k23 i24 h26 dX12_flush_35 ?_
      refine zx_iconst (v := 1) C dX12_flush_36 (by decide) ?_
      refine zx_icmp_le C 62 dX12_flush_37 (by decide) (fun c27 => ?_) (fun c27 => ?_)
      · replace hm := ip_e hm c27
        exact zx_lv [0, 1] [(0, .ref (x0)), (1, .int (x1))] rfl (j_X12_flush_62 C htab hin hrc22   hm)
      · replace hm := in_e hm c27
        refine zx_aload_n C dX12_flush_40 0 rfl ?_
        obtain ⟨a29, h30, hm⟩ := osm_e hm
        refine zx_get (j := 24) C tC_11 k8 i9 ⟨by decide, Or.inl W_7_3⟩ dX12_flush_41 (.ref a29) (rf_s h30) ?_
        refine zx_iload_n C dX12_flush_44 1 rfl ?_
        obtain ⟨n33, k31, i32, hm⟩ := ckR_e hm
        obtain ⟨h34, hm⟩ := ckI_e hm
        refine zx_iald C k31 i32 h34 dX12_flush_45 ?_
        refine zx_iconst (v := 1) C dX12_flush_46 (by decide) ?_
        refine zx_isub C dX12_flush_47 ?_
        refine zx_aload_n C dX12_flush_48 0 rfl ?_
        refine zx_get (j := 29) C tC_11 k8 i9 ⟨by decide, Or.inl W_7_8⟩ dX12_flush_49 (.int (tI (σ) (x0) 29)) rfl ?_
        refine zx_icmp_gt C 62 dX12_flush_52 (by decide) (fun c35 => ?_) (fun c35 => ?_)
        · replace hm := ip_e hm c35
          exact zx_lv [0, 1] [(0, .ref (x0)), (1, .int (x1))] rfl (j_X12_flush_62 C htab hin hrc22   hm)
        · replace hm := in_e hm c35
          refine zx_aload_n C dX12_flush_55 0 rfl ?_
          obtain ⟨a36, h37, hm⟩ := osm_e hm
          refine zx_get (j := 24) C tC_11 k8 i9 ⟨by decide, Or.inl W_7_3⟩ dX12_flush_56 (.ref a36) (rf_s h37) ?_
          refine zx_iload_n C dX12_flush_59 1 rfl ?_
          refine zx_iconst (v := 0) C dX12_flush_60 (by decide) ?_
          obtain ⟨n40, k38, i39, hm⟩ := ckR_e hm
          obtain ⟨h41, hm⟩ := ckI_e hm
          refine zx_iast C k38 i39 h41 dX12_flush_61 ?_
          exact zx_lv [0, 1] [(0, .ref (x0)), (1, .int (x1))] rfl (j_X12_flush_62 C htab hin hrc22   hm)
set_option maxRecDepth 100000 in
set_option maxHeartbeats 1000000 in
theorem c_X12_flush {l : Launch} {D : va_G} {aC : Nat → ClassId} {b0 fu : Nat} {a0 : Nat} {σ τ : tM} {v : (Unit) ⊕ Unit} (hm : m_X12_flush b0 fu a0 σ = some (v, τ)) : tMt l D aC b0 yX12_flush (Cond.code yX12_flush cX12_flush 2 none) 4 92 [.ref (a0)] σ (rxV "SyncTreeModel$Off" v) τ := by
  unfold m_X12_flush at hm
  obtain ⟨hg, hm⟩ := grw_e hm
  refine tMt_of (n := 0) rfl (Nat.le_of_ble_eq_true rfl) hg ?_
  intro p e s m below meth c C htab hin
  refine zx_lv [0] [(0, .ref (a0))] rfl ?_
  refine zx_aload_n C dX12_flush_0 0 rfl ?_
  obtain ⟨k1, i2, hm⟩ := ckO_e hm
  rcases clx_e hm with ⟨v3, ρ4, h5, hm⟩ | ⟨ρ4, h5, hm⟩
  · refine zx_callV (σ := σ) C [] tC_11 k1 i2 Y_X12_flushAct W_7_212 W_7_214 Wp_64 (c_X12_flushAct h5) (by decide) (by decide) rfl (Nat.le_of_ble_eq_true rfl) dX12_flush_1 rfl ?_
    refine zx_aload_n C dX12_flush_4 0 rfl ?_
    refine zx_aload_n C dX12_flush_5 0 rfl ?_
    obtain ⟨k6, i7, hm⟩ := ckO_e hm
    refine zx_get (j := 28) C tC_11 k6 i7 ⟨by decide, Or.inl W_7_7⟩ dX12_flush_6 (.int (tI (ρ4) (a0) 28)) rfl ?_
    refine zx_put (j := 29) (ρ := sI (ρ4) (a0) 29 (tI (ρ4) (a0) 28)) C tC_11 k6 i7 ⟨by decide, Or.inl W_7_8⟩ rfl rfl rfl (sI_ok (fun _ => rfl)) dX12_flush_9 ?_
    refine zx_aload_n C dX12_flush_12 0 rfl ?_
    refine zx_aload_n C dX12_flush_13 0 rfl ?_
    refine zx_get (j := 31) C tC_11 k6 i7 ⟨by decide, Or.inl W_7_10⟩ dX12_flush_14 (.int (tI (sI (ρ4) (a0) 29 (tI (ρ4) (a0) 28)) (a0) 31)) rfl ?_
    refine zx_put (j := 32) (ρ := sI (sI (ρ4) (a0) 29 (tI (ρ4) (a0) 28)) (a0) 32 (tI (sI (ρ4) (a0) 29 (tI (ρ4) (a0) 28)) (a0) 31)) C tC_11 k6 i7 ⟨by decide, Or.inl W_7_11⟩ rfl rfl rfl (sI_ok (fun _ => rfl)) dX12_flush_17 ?_
    refine zx_iconst (v := 0) C dX12_flush_20 (by decide) ?_
    refine zx_istore_n C [(1, .int (0)), (0, .ref (a0))] dX12_flush_21 rfl (by decide) rfl ?_
    exact zx_lv [1, 0] [(0, .ref (a0)), (1, .int (0))] rfl (l_X12_flush_22 C htab hin  _ _ _ _ hm)
  · cases hm
    exact zx_outV (σ := σ) C htab [] tC_11 k1 i2 Y_X12_flushAct W_7_212 W_7_214 Wp_64 (c_X12_flushAct h5) rfl (by decide) (by decide) rfl (Nat.le_of_ble_eq_true rfl) dX12_flush_1 rfl
abbrev cX12_applyOne : ByteArray := prog_13_method_26_code
def yX12_applyOne : MethodName := ⟨"SyncTreeModel", "applyOne", "()V"⟩
theorem Y_X12_applyOne : tY yX12_applyOne cX12_applyOne 7 none 0 := ⟨W_8_4, W_1_14, ⟨by decide +kernel, by decide +kernel⟩, by decide +kernel⟩
theorem dX12_applyOne_0 : decode cX12_applyOne 0 = .ok (.aload_n 0, 1) := by decide +kernel
theorem dX12_applyOne_1 : decode cX12_applyOne 1 = .ok (.getfield 208, 3) := by decide +kernel
theorem dX12_applyOne_4 : decode cX12_applyOne 4 = .ok (.iconst 1, 1) := by decide +kernel
theorem dX12_applyOne_5 : decode cX12_applyOne 5 = .ok (.iadd, 1) := by decide +kernel
theorem dX12_applyOne_6 : decode cX12_applyOne 6 = .ok (.istore_n 1, 1) := by decide +kernel
theorem dX12_applyOne_7 : decode cX12_applyOne 7 = .ok (.iload_n 1, 1) := by decide +kernel
theorem dX12_applyOne_8 : decode cX12_applyOne 8 = .ok (.aload_n 0, 1) := by decide +kernel
theorem dX12_applyOne_9 : decode cX12_applyOne 9 = .ok (.getfield 128, 3) := by decide +kernel
theorem dX12_applyOne_12 : decode cX12_applyOne 12 = .ok (.isub, 1) := by decide +kernel
theorem dX12_applyOne_13 : decode cX12_applyOne 13 = .ok (.iconst 1, 1) := by decide +kernel
theorem dX12_applyOne_14 : decode cX12_applyOne 14 = .ok (.isub, 1) := by decide +kernel
theorem dX12_applyOne_15 : decode cX12_applyOne 15 = .ok (.istore_n 2, 1) := by decide +kernel
theorem dX12_applyOne_16 : decode cX12_applyOne 16 = .ok (.iconst 0, 1) := by decide +kernel
theorem dX12_applyOne_17 : decode cX12_applyOne 17 = .ok (.istore_n 3, 1) := by decide +kernel
theorem dX12_applyOne_18 : decode cX12_applyOne 18 = .ok (.iload_n 3, 1) := by decide +kernel
theorem dX12_applyOne_19 : decode cX12_applyOne 19 = .ok (.aload_n 0, 1) := by decide +kernel
theorem dX12_applyOne_20 : decode cX12_applyOne 20 = .ok (.getfield 152, 3) := by decide +kernel
theorem dX12_applyOne_23 : decode cX12_applyOne 23 = .ok (.iload_n 2, 1) := by decide +kernel
theorem dX12_applyOne_24 : decode cX12_applyOne 24 = .ok (.iaload, 1) := by decide +kernel
theorem dX12_applyOne_25 : decode cX12_applyOne 25 = .ok (.if_icmp .ge 75, 3) := by decide +kernel
theorem dX12_applyOne_28 : decode cX12_applyOne 28 = .ok (.aload_n 0, 1) := by decide +kernel
theorem dX12_applyOne_29 : decode cX12_applyOne 29 = .ok (.getfield 134, 3) := by decide +kernel
theorem dX12_applyOne_32 : decode cX12_applyOne 32 = .ok (.aload_n 0, 1) := by decide +kernel
theorem dX12_applyOne_33 : decode cX12_applyOne 33 = .ok (.getfield 149, 3) := by decide +kernel
theorem dX12_applyOne_36 : decode cX12_applyOne 36 = .ok (.iload_n 2, 1) := by decide +kernel
theorem dX12_applyOne_37 : decode cX12_applyOne 37 = .ok (.iaload, 1) := by decide +kernel
theorem dX12_applyOne_38 : decode cX12_applyOne 38 = .ok (.iload_n 3, 1) := by decide +kernel
theorem dX12_applyOne_39 : decode cX12_applyOne 39 = .ok (.iadd, 1) := by decide +kernel
theorem dX12_applyOne_40 : decode cX12_applyOne 40 = .ok (.iaload, 1) := by decide +kernel
theorem dX12_applyOne_41 : decode cX12_applyOne 41 = .ok (.istore 4, 2) := by decide +kernel
theorem dX12_applyOne_43 : decode cX12_applyOne 43 = .ok (.iconst 0, 1) := by decide +kernel
theorem dX12_applyOne_44 : decode cX12_applyOne 44 = .ok (.istore 5, 2) := by decide +kernel
theorem dX12_applyOne_46 : decode cX12_applyOne 46 = .ok (.iload_n 1, 1) := by decide +kernel
theorem dX12_applyOne_47 : decode cX12_applyOne 47 = .ok (.iconst 1, 1) := by decide +kernel
theorem dX12_applyOne_48 : decode cX12_applyOne 48 = .ok (.iadd, 1) := by decide +kernel
theorem dX12_applyOne_49 : decode cX12_applyOne 49 = .ok (.istore 6, 2) := by decide +kernel
theorem dX12_applyOne_51 : decode cX12_applyOne 51 = .ok (.iload 6, 2) := by decide +kernel
theorem dX12_applyOne_53 : decode cX12_applyOne 53 = .ok (.aload_n 0, 1) := by decide +kernel
theorem dX12_applyOne_54 : decode cX12_applyOne 54 = .ok (.getfield 199, 3) := by decide +kernel
theorem dX12_applyOne_57 : decode cX12_applyOne 57 = .ok (.if_icmp .gt 24, 3) := by decide +kernel
theorem dX12_applyOne_60 : decode cX12_applyOne 60 = .ok (.iload 5, 2) := by decide +kernel
theorem dX12_applyOne_62 : decode cX12_applyOne 62 = .ok (.ifCond .ne 19, 3) := by decide +kernel
theorem dX12_applyOne_65 : decode cX12_applyOne 65 = .ok (.aload_n 0, 1) := by decide +kernel
theorem dX12_applyOne_66 : decode cX12_applyOne 66 = .ok (.iload 6, 2) := by decide +kernel
theorem dX12_applyOne_68 : decode cX12_applyOne 68 = .ok (.iload 4, 2) := by decide +kernel
theorem dX12_applyOne_70 : decode cX12_applyOne 70 = .ok (.invokevirtual 220, 3) := by decide +kernel
theorem dX12_applyOne_73 : decode cX12_applyOne 73 = .ok (.istore 5, 2) := by decide +kernel
theorem dX12_applyOne_75 : decode cX12_applyOne 75 = .ok (.iinc 6 1, 3) := by decide +kernel
theorem dX12_applyOne_78 : decode cX12_applyOne 78 = .ok (.goto (-27), 3) := by decide +kernel
theorem dX12_applyOne_81 : decode cX12_applyOne 81 = .ok (.iload 5, 2) := by decide +kernel
theorem dX12_applyOne_83 : decode cX12_applyOne 83 = .ok (.ifCond .ne 11, 3) := by decide +kernel
theorem dX12_applyOne_86 : decode cX12_applyOne 86 = .ok (.aload_n 0, 1) := by decide +kernel
theorem dX12_applyOne_87 : decode cX12_applyOne 87 = .ok (.iload 4, 2) := by decide +kernel
theorem dX12_applyOne_89 : decode cX12_applyOne 89 = .ok (.iconst 0, 1) := by decide +kernel
theorem dX12_applyOne_90 : decode cX12_applyOne 90 = .ok (.iconst 0, 1) := by decide +kernel
theorem dX12_applyOne_91 : decode cX12_applyOne 91 = .ok (.invokevirtual 183, 3) := by decide +kernel
theorem dX12_applyOne_94 : decode cX12_applyOne 94 = .ok (.iinc 3 1, 3) := by decide +kernel
theorem dX12_applyOne_97 : decode cX12_applyOne 97 = .ok (.goto (-79), 3) := by decide +kernel
theorem dX12_applyOne_100 : decode cX12_applyOne 100 = .ok (.aload_n 0, 1) := by decide +kernel
theorem dX12_applyOne_101 : decode cX12_applyOne 101 = .ok (.iload_n 1, 1) := by decide +kernel
theorem dX12_applyOne_102 : decode cX12_applyOne 102 = .ok (.putfield 208, 3) := by decide +kernel
theorem dX12_applyOne_105 : decode cX12_applyOne 105 = .ok (.return_, 1) := by decide +kernel
set_option maxRecDepth 100000 in
set_option maxHeartbeats 1000000 in
theorem j_X12_applyOne_94 {p : Program} {l : Launch} {e : Env} {s : State} {m : MethodId} {args : Array Value} {below : List Frame} {meth : Method} {c : Code} {D : va_G} {aC : Nat → ClassId} {b0 fu : Nat} {σ0 τ : tM} {v : (Unit) ⊕ Unit} {rc18 : Nat → Int32 → Int32 → Int32 → tM → Option (((Unit) ⊕ Unit) × tM)} (C : tCx p l s m args meth c yX12_applyOne.cls cX12_applyOne 7 none D aC b0 σ0) (htab : ∀ x ∈ c.exceptionTable.toList, False) (hin : meth.name = yX12_applyOne.name) (hrc18 : ∀ (x0 : Nat) (x1 : Int32) (x2 : Int32) (x3 : Int32) (ρ : tM), rc18 x0 x1 x2 x3 ρ = some (v, τ) → tX p l e s m args below meth c 7 4 92 D aC b0 σ0 (rxV "SyncTreeModel$Off" v) τ 18 [(0, .ref (x0)), (1, .int (x1)), (2, .int (x2)), (3, .int (x3))] [] ρ) {x0 : Nat} {x1 : Int32} {x2 : Int32} {x3 : Int32} {σ : tM} (hm : J_X12_applyOne_94 b0 fu rc18 x0 x1 x2 x3 σ = some (v, τ)) : tX p l e s m args below meth c 7 4 92 D aC b0 σ0 (rxV "SyncTreeModel$Off" v) τ 94 [(0, .ref (x0)), (1, .int (x1)), (2, .int (x2)), (3, .int (x3))] [] σ := by
  unfold J_X12_applyOne_94 at hm
  obtain ⟨y32, hy32⟩ : ∃ z : Int32, z = (x3) + Int32.ofInt 1 := ⟨_, rfl⟩
  replace hm := ltb_e hm hy32
  refine zx_iinc C [(3, .int (y32)), (0, .ref (x0)), (1, .int (x1)), (2, .int (x2))] dX12_applyOne_94 3 rfl hy32.symm (by decide) rfl ?_
  refine zx_goto C 18 dX12_applyOne_97 (by decide) ?_
  exact zx_lv [1, 2, 3, 0] [(0, .ref (x0)), (1, .int (x1)), (2, .int (x2)), (3, .int (y32))] rfl (hrc18 _ _ _ _ _ hm)
set_option maxRecDepth 100000 in
set_option maxHeartbeats 1000000 in
theorem j_X12_applyOne_81 {p : Program} {l : Launch} {e : Env} {s : State} {m : MethodId} {args : Array Value} {below : List Frame} {meth : Method} {c : Code} {D : va_G} {aC : Nat → ClassId} {b0 fu : Nat} {σ0 τ : tM} {v : (Unit) ⊕ Unit} {rc18 : Nat → Int32 → Int32 → Int32 → tM → Option (((Unit) ⊕ Unit) × tM)} (C : tCx p l s m args meth c yX12_applyOne.cls cX12_applyOne 7 none D aC b0 σ0) (htab : ∀ x ∈ c.exceptionTable.toList, False) (hin : meth.name = yX12_applyOne.name) (hrc18 : ∀ (x0 : Nat) (x1 : Int32) (x2 : Int32) (x3 : Int32) (ρ : tM), rc18 x0 x1 x2 x3 ρ = some (v, τ) → tX p l e s m args below meth c 7 4 92 D aC b0 σ0 (rxV "SyncTreeModel$Off" v) τ 18 [(0, .ref (x0)), (1, .int (x1)), (2, .int (x2)), (3, .int (x3))] [] ρ) {x0 : Nat} {x1 : Int32} {x2 : Int32} {x3 : Int32} {x4 : Int32} {x5 : Int32} {σ : tM} (hm : J_X12_applyOne_81 b0 fu rc18 x0 x1 x2 x3 x4 x5 σ = some (v, τ)) : tX p l e s m args below meth c 7 4 92 D aC b0 σ0 (rxV "SyncTreeModel$Off" v) τ 81 [(0, .ref (x0)), (1, .int (x1)), (2, .int (x2)), (3, .int (x3)), (4, .int (x4)), (5, .int (x5))] [] σ := by
  unfold J_X12_applyOne_81 at hm
  refine zx_iload C dX12_applyOne_81 5 rfl ?_
  refine zx_if_ne C 94 dX12_applyOne_83 (by decide) (fun c31 => ?_) (fun c31 => ?_)
  · replace hm := in_e hm c31
    exact zx_lv [0, 1, 2, 3] [(0, .ref (x0)), (1, .int (x1)), (2, .int (x2)), (3, .int (x3))] rfl (j_X12_applyOne_94 C htab hin hrc18   hm)
  · replace hm := ip_e hm c31
    refine zx_aload_n C dX12_applyOne_86 0 rfl ?_
    refine zx_iload C dX12_applyOne_87 4 rfl ?_
    refine zx_iconst (v := 0) C dX12_applyOne_89 (by decide) ?_
    refine zx_iconst (v := 0) C dX12_applyOne_90 (by decide) ?_
    obtain ⟨k33, i34, hm⟩ := ckO_e hm
    rcases clx_e hm with ⟨v35, ρ36, h37, hm⟩ | ⟨ρ36, h37, hm⟩
    · refine zx_callV (σ := σ) C [.int (x4), .int (0), .int (0)] tC_11 k33 i34 Y_X12_version W_7_237 W_7_239 Wp_70 (c_X12_version h37) (by decide) (by decide) rfl (Nat.le_of_ble_eq_true rfl) dX12_applyOne_91 rfl ?_
      exact zx_lv [0, 1, 2, 3] [(0, .ref (x0)), (1, .int (x1)), (2, .int (x2)), (3, .int (x3))] rfl (j_X12_applyOne_94 C htab hin hrc18   hm)
    · cases hm
      exact zx_outV (σ := σ) C htab [.int (x4), .int (0), .int (0)] tC_11 k33 i34 Y_X12_version W_7_237 W_7_239 Wp_70 (c_X12_version h37) rfl (by decide) (by decide) rfl (Nat.le_of_ble_eq_true rfl) dX12_applyOne_91 rfl
set_option maxRecDepth 100000 in
set_option maxHeartbeats 1000000 in
theorem l_X12_applyOne_51 {p : Program} {l : Launch} {e : Env} {s : State} {m : MethodId} {args : Array Value} {below : List Frame} {meth : Method} {c : Code} {D : va_G} {aC : Nat → ClassId} {b0 fu : Nat} {σ0 τ : tM} {v : (Unit) ⊕ Unit} {rc18 : Nat → Int32 → Int32 → Int32 → tM → Option (((Unit) ⊕ Unit) × tM)} (C : tCx p l s m args meth c yX12_applyOne.cls cX12_applyOne 7 none D aC b0 σ0) (htab : ∀ x ∈ c.exceptionTable.toList, False) (hin : meth.name = yX12_applyOne.name) (hrc18 : ∀ (x0 : Nat) (x1 : Int32) (x2 : Int32) (x3 : Int32) (ρ : tM), rc18 x0 x1 x2 x3 ρ = some (v, τ) → tX p l e s m args below meth c 7 4 92 D aC b0 σ0 (rxV "SyncTreeModel$Off" v) τ 18 [(0, .ref (x0)), (1, .int (x1)), (2, .int (x2)), (3, .int (x3))] [] ρ) : ∀ (n : Nat) (x0 : Nat) (x1 : Int32) (x2 : Int32) (x3 : Int32) (x4 : Int32) (x5 : Int32) (x6 : Int32) (σ : tM), L_X12_applyOne_51 b0 fu rc18 n x0 x1 x2 x3 x4 x5 x6 σ = some (v, τ) → tX p l e s m args below meth c 7 4 92 D aC b0 σ0 (rxV "SyncTreeModel$Off" v) τ 51 [(0, .ref (x0)), (1, .int (x1)), (2, .int (x2)), (3, .int (x3)), (4, .int (x4)), (5, .int (x5)), (6, .int (x6))] [] σ := by
  intro n
  induction n with
  | zero => intro x0 x1 x2 x3 x4 x5 x6 σ hm; unfold L_X12_applyOne_51 at hm; cases hm
  | succ n ih =>
    intro x0 x1 x2 x3 x4 x5 x6 σ hm
    unfold L_X12_applyOne_51 at hm
    obtain ⟨rc51, hrc⟩ : ∃ z, z = L_X12_applyOne_51 b0 fu rc18 n := ⟨_, rfl⟩
    replace hm := ltb_e hm hrc
    rw [← hrc] at ih
    have hrc51 := ih
    clear ih hrc
    refine zx_iload C dX12_applyOne_51 6 rfl ?_
    refine zx_aload_n C dX12_applyOne_53 0 rfl ?_
    obtain ⟨k28, i29, hm⟩ := ckO_e hm
    refine zx_get (j := 29) C tC_11 k28 i29 ⟨by decide, Or.inl W_7_8⟩ dX12_applyOne_54 (.int (tI (σ) (x0) 29)) rfl ?_
    refine zx_icmp_gt C 81 dX12_applyOne_57 (by decide) (fun c30 => ?_) (fun c30 => ?_)
    · replace hm := ip_e hm c30
      exact zx_lv [0, 1, 2, 3, 4, 5] [(0, .ref (x0)), (1, .int (x1)), (2, .int (x2)), (3, .int (x3)), (4, .int (x4)), (5, .int (x5))] rfl (j_X12_applyOne_81 C htab hin hrc18   hm)
    · replace hm := in_e hm c30
      refine zx_iload C dX12_applyOne_60 5 rfl ?_
      refine zx_if_ne C 81 dX12_applyOne_62 (by decide) (fun c39 => ?_) (fun c39 => ?_)
      · replace hm := in_e hm c39
        exact zx_lv [0, 1, 2, 3, 4, 5] [(0, .ref (x0)), (1, .int (x1)), (2, .int (x2)), (3, .int (x3)), (4, .int (x4)), (5, .int (x5))] rfl (j_X12_applyOne_81 C htab hin hrc18   hm)
      · replace hm := ip_e hm c39
        refine zx_aload_n C dX12_applyOne_65 0 rfl ?_
        refine zx_iload C dX12_applyOne_66 6 rfl ?_
        refine zx_iload C dX12_applyOne_68 4 rfl ?_
        obtain ⟨v40, ρ41, h42, hm⟩ := cll_e hm
        refine zx_callV (σ := σ) C [.int (x6), .int (x4)] tC_11 k28 i29 Y_X12_isRevoked W_8_5 W_8_7 Wp_72 (c_X12_isRevoked h42) (by decide) (by decide) rfl (Nat.le_of_ble_eq_true rfl) dX12_applyOne_70 rfl ?_
        refine zx_istore C [(5, .int (v40)), (0, .ref (x0)), (1, .int (x1)), (2, .int (x2)), (3, .int (x3)), (4, .int (x4)), (6, .int (x6))] dX12_applyOne_73 (by decide) rfl ?_
        obtain ⟨y43, hy43⟩ : ∃ z : Int32, z = (x6) + Int32.ofInt 1 := ⟨_, rfl⟩
        replace hm := ltb_e hm hy43
        refine zx_iinc C [(6, .int (y43)), (5, .int (v40)), (0, .ref (x0)), (1, .int (x1)), (2, .int (x2)), (3, .int (x3)), (4, .int (x4))] dX12_applyOne_75 6 rfl hy43.symm (by decide) rfl ?_
        refine zx_goto C 51 dX12_applyOne_78 (by decide) ?_
        exact zx_lv [2, 3, 4, 5, 6, 1, 0] [(0, .ref (x0)), (1, .int (x1)), (2, .int (x2)), (3, .int (x3)), (4, .int (x4)), (5, .int (v40)), (6, .int (y43))] rfl (hrc51 _ _ _ _ _ _ _ _ hm)
set_option maxRecDepth 100000 in
set_option maxHeartbeats 1000000 in
theorem l_X12_applyOne_18 {p : Program} {l : Launch} {e : Env} {s : State} {m : MethodId} {args : Array Value} {below : List Frame} {meth : Method} {c : Code} {D : va_G} {aC : Nat → ClassId} {b0 fu : Nat} {σ0 τ : tM} {v : (Unit) ⊕ Unit}  (C : tCx p l s m args meth c yX12_applyOne.cls cX12_applyOne 7 none D aC b0 σ0) (htab : ∀ x ∈ c.exceptionTable.toList, False) (hin : meth.name = yX12_applyOne.name)  : ∀ (n : Nat) (x0 : Nat) (x1 : Int32) (x2 : Int32) (x3 : Int32) (σ : tM), L_X12_applyOne_18 b0 fu  n x0 x1 x2 x3 σ = some (v, τ) → tX p l e s m args below meth c 7 4 92 D aC b0 σ0 (rxV "SyncTreeModel$Off" v) τ 18 [(0, .ref (x0)), (1, .int (x1)), (2, .int (x2)), (3, .int (x3))] [] σ := by
  intro n
  induction n with
  | zero => intro x0 x1 x2 x3 σ hm; unfold L_X12_applyOne_18 at hm; cases hm
  | succ n ih =>
    intro x0 x1 x2 x3 σ hm
    unfold L_X12_applyOne_18 at hm
    obtain ⟨rc18, hrc⟩ : ∃ z, z = L_X12_applyOne_18 b0 fu  n := ⟨_, rfl⟩
    replace hm := ltb_e hm hrc
    rw [← hrc] at ih
    have hrc18 := ih
    clear ih hrc
    refine zx_iload_n C dX12_applyOne_18 3 rfl ?_
    refine zx_aload_n C dX12_applyOne_19 0 rfl ?_
    obtain ⟨k5, i6, hm⟩ := ckO_e hm
    obtain ⟨a7, h8, hm⟩ := osm_e hm
    refine zx_get (j := 42) C tC_11 k5 i6 ⟨by decide, Or.inl W_7_21⟩ dX12_applyOne_20 (.ref a7) (rf_s h8) ?_
    refine zx_iload_n C dX12_applyOne_23 2 rfl ?_
    obtain ⟨n11, k9, i10, hm⟩ := ckR_e hm
    obtain ⟨h12, hm⟩ := ckI_e hm
    refine zx_iald C k9 i10 h12 dX12_applyOne_24 ?_
    refine zx_icmp_ge C 100 dX12_applyOne_25 (by decide) (fun c13 => ?_) (fun c13 => ?_)
    · replace hm := ip_e hm c13
      refine zx_aload_n C dX12_applyOne_100 0 rfl ?_
      refine zx_iload_n C dX12_applyOne_101 1 rfl ?_
      refine zx_put (j := 30) (ρ := sI (σ) (x0) 30 (x1)) C tC_11 k5 i6 ⟨by decide, Or.inl W_7_9⟩ rfl rfl rfl (sI_ok (fun _ => rfl)) dX12_applyOne_102 ?_
      obtain ⟨rfl, rfl⟩ := ret_e hm
      exact zx_vret C rfl rfl rfl dX12_applyOne_105
    · replace hm := in_e hm c13
      refine zx_aload_n C dX12_applyOne_28 0 rfl ?_
      obtain ⟨a14, h15, hm⟩ := osm_e hm
      refine zx_get (j := 44) C tC_11 k5 i6 ⟨by decide, Or.inl W_7_23⟩ dX12_applyOne_29 (.ref a14) (rf_s h15) ?_
      refine zx_aload_n C dX12_applyOne_32 0 rfl ?_
      obtain ⟨a16, h17, hm⟩ := osm_e hm
      refine zx_get (j := 41) C tC_11 k5 i6 ⟨by decide, Or.inl W_7_20⟩ dX12_applyOne_33 (.ref a16) (rf_s h17) ?_
      refine zx_iload_n C dX12_applyOne_36 2 rfl ?_
      obtain ⟨n20, k18, i19, hm⟩ := ckR_e hm
      obtain ⟨h21, hm⟩ := ckI_e hm
      refine zx_iald C k18 i19 h21 dX12_applyOne_37 ?_
      refine zx_iload_n C dX12_applyOne_38 3 rfl ?_
      refine zx_iadd C dX12_applyOne_39 ?_
      obtain ⟨n24, k22, i23, hm⟩ := ckR_e hm
      obtain ⟨h25, hm⟩ := ckI_e hm
      refine zx_iald C k22 i23 h25 dX12_applyOne_40 ?_
      refine zx_topi (fun y26 hy26 => ?_)
      replace hm := ltb_e hm hy26
      refine zx_istore C [(4, .int (y26)), (0, .ref (x0)), (1, .int (x1)), (2, .int (x2)), (3, .int (x3))] dX12_applyOne_41 (by decide) rfl ?_
      refine zx_iconst (v := 0) C dX12_applyOne_43 (by decide) ?_
      refine zx_istore C [(5, .int (0)), (4, .int (y26)), (0, .ref (x0)), (1, .int (x1)), (2, .int (x2)), (3, .int (x3))] dX12_applyOne_44 (by decide) rfl ?_
      refine zx_iload_n C dX12_applyOne_46 3 rfl ?_
      refine zx_iconst (v := 1) C dX12_applyOne_47 (by decide) ?_
      refine zx_iadd C dX12_applyOne_48 ?_
      refine zx_topi (fun y27 hy27 => ?_)
      replace hm := ltb_e hm hy27
      refine zx_istore C [(6, .int (y27)), (5, .int (0)), (4, .int (y26)), (0, .ref (x0)), (1, .int (x1)), (2, .int (x2)), (3, .int (x3))] dX12_applyOne_49 (by decide) rfl ?_
      exact zx_lv [3, 4, 5, 6, 2, 1, 0] [(0, .ref (x0)), (1, .int (x1)), (2, .int (x2)), (3, .int (x3)), (4, .int (y26)), (5, .int (0)), (6, .int (y27))] rfl (l_X12_applyOne_51 C htab hin hrc18 _ _ _ _ _ _ _ _ _ hm)
set_option maxRecDepth 100000 in
set_option maxHeartbeats 1000000 in
theorem c_X12_applyOne {l : Launch} {D : va_G} {aC : Nat → ClassId} {b0 fu : Nat} {a0 : Nat} {σ τ : tM} {v : (Unit) ⊕ Unit} (hm : m_X12_applyOne b0 fu a0 σ = some (v, τ)) : tMt l D aC b0 yX12_applyOne (Cond.code yX12_applyOne cX12_applyOne 7 none) 4 92 [.ref (a0)] σ (rxV "SyncTreeModel$Off" v) τ := by
  unfold m_X12_applyOne at hm
  obtain ⟨hg, hm⟩ := grw_e hm
  refine tMt_of (n := 0) rfl (Nat.le_of_ble_eq_true rfl) hg ?_
  intro p e s m below meth c C htab hin
  refine zx_lv [0] [(0, .ref (a0))] rfl ?_
  refine zx_aload_n C dX12_applyOne_0 0 rfl ?_
  obtain ⟨k1, i2, hm⟩ := ckO_e hm
  refine zx_get (j := 30) C tC_11 k1 i2 ⟨by decide, Or.inl W_7_9⟩ dX12_applyOne_1 (.int (tI (σ) (a0) 30)) rfl ?_
  refine zx_iconst (v := 1) C dX12_applyOne_4 (by decide) ?_
  refine zx_iadd C dX12_applyOne_5 ?_
  refine zx_topi (fun y3 hy3 => ?_)
  replace hm := ltb_e hm hy3
  refine zx_istore_n C [(1, .int (y3)), (0, .ref (a0))] dX12_applyOne_6 rfl (by decide) rfl ?_
  refine zx_iload_n C dX12_applyOne_7 0 rfl ?_
  refine zx_aload_n C dX12_applyOne_8 1 rfl ?_
  refine zx_get (j := 35) C tC_11 k1 i2 ⟨by decide, Or.inl W_7_14⟩ dX12_applyOne_9 (.int (tI (σ) (a0) 35)) rfl ?_
  refine zx_isub C dX12_applyOne_12 ?_
  refine zx_iconst (v := 1) C dX12_applyOne_13 (by decide) ?_
  refine zx_isub C dX12_applyOne_14 ?_
  refine zx_topi (fun y4 hy4 => ?_)
  replace hm := ltb_e hm hy4
  refine zx_istore_n C [(2, .int (y4)), (1, .int (y3)), (0, .ref (a0))] dX12_applyOne_15 rfl (by decide) rfl ?_
  refine zx_iconst (v := 0) C dX12_applyOne_16 (by decide) ?_
  refine zx_istore_n C [(3, .int (0)), (2, .int (y4)), (1, .int (y3)), (0, .ref (a0))] dX12_applyOne_17 rfl (by decide) rfl ?_
  exact zx_lv [3, 2, 1, 0] [(0, .ref (a0)), (1, .int (y3)), (2, .int (y4)), (3, .int (0))] rfl (l_X12_applyOne_18 C htab hin  _ _ _ _ _ _ hm)
abbrev cX12_checkpoint : ByteArray := prog_13_method_27_code
def yX12_checkpoint : MethodName := ⟨"SyncTreeModel", "checkpoint", "()V"⟩
theorem Y_X12_checkpoint : tY yX12_checkpoint cX12_checkpoint 1 none 0 := ⟨W_7_207, W_1_14, ⟨by decide +kernel, by decide +kernel⟩, by decide +kernel⟩
theorem dX12_checkpoint_0 : decode cX12_checkpoint 0 = .ok (.aload_n 0, 1) := by decide +kernel
theorem dX12_checkpoint_1 : decode cX12_checkpoint 1 = .ok (.invokevirtual 224, 3) := by decide +kernel
theorem dX12_checkpoint_4 : decode cX12_checkpoint 4 = .ok (.aload_n 0, 1) := by decide +kernel
theorem dX12_checkpoint_5 : decode cX12_checkpoint 5 = .ok (.getfield 208, 3) := by decide +kernel
theorem dX12_checkpoint_8 : decode cX12_checkpoint 8 = .ok (.aload_n 0, 1) := by decide +kernel
theorem dX12_checkpoint_9 : decode cX12_checkpoint 9 = .ok (.getfield 199, 3) := by decide +kernel
theorem dX12_checkpoint_12 : decode cX12_checkpoint 12 = .ok (.if_icmp .ge 10, 3) := by decide +kernel
theorem dX12_checkpoint_15 : decode cX12_checkpoint 15 = .ok (.aload_n 0, 1) := by decide +kernel
theorem dX12_checkpoint_16 : decode cX12_checkpoint 16 = .ok (.invokevirtual 227, 3) := by decide +kernel
theorem dX12_checkpoint_19 : decode cX12_checkpoint 19 = .ok (.goto (-15), 3) := by decide +kernel
theorem dX12_checkpoint_22 : decode cX12_checkpoint 22 = .ok (.aload_n 0, 1) := by decide +kernel
theorem dX12_checkpoint_23 : decode cX12_checkpoint 23 = .ok (.invokevirtual 224, 3) := by decide +kernel
theorem dX12_checkpoint_26 : decode cX12_checkpoint 26 = .ok (.aload_n 0, 1) := by decide +kernel
theorem dX12_checkpoint_27 : decode cX12_checkpoint 27 = .ok (.invokevirtual 224, 3) := by decide +kernel
theorem dX12_checkpoint_30 : decode cX12_checkpoint 30 = .ok (.return_, 1) := by decide +kernel
set_option maxRecDepth 100000 in
set_option maxHeartbeats 1000000 in
theorem l_X12_checkpoint_4 {p : Program} {l : Launch} {e : Env} {s : State} {m : MethodId} {args : Array Value} {below : List Frame} {meth : Method} {c : Code} {D : va_G} {aC : Nat → ClassId} {b0 fu : Nat} {σ0 τ : tM} {v : (Unit) ⊕ Unit}  (C : tCx p l s m args meth c yX12_checkpoint.cls cX12_checkpoint 1 none D aC b0 σ0) (htab : ∀ x ∈ c.exceptionTable.toList, False) (hin : meth.name = yX12_checkpoint.name)  : ∀ (n : Nat) (x0 : Nat) (σ : tM), L_X12_checkpoint_4 b0 fu  n x0 σ = some (v, τ) → tX p l e s m args below meth c 1 5 118 D aC b0 σ0 (rxV "SyncTreeModel$Off" v) τ 4 [(0, .ref (x0))] [] σ := by
  intro n
  induction n with
  | zero => intro x0 σ hm; unfold L_X12_checkpoint_4 at hm; cases hm
  | succ n ih =>
    intro x0 σ hm
    unfold L_X12_checkpoint_4 at hm
    obtain ⟨rc4, hrc⟩ : ∃ z, z = L_X12_checkpoint_4 b0 fu  n := ⟨_, rfl⟩
    replace hm := ltb_e hm hrc
    rw [← hrc] at ih
    have hrc4 := ih
    clear ih hrc
    refine zx_aload_n C dX12_checkpoint_4 0 rfl ?_
    obtain ⟨k6, i7, hm⟩ := ckO_e hm
    refine zx_get (j := 30) C tC_11 k6 i7 ⟨by decide, Or.inl W_7_9⟩ dX12_checkpoint_5 (.int (tI (σ) (x0) 30)) rfl ?_
    refine zx_aload_n C dX12_checkpoint_8 0 rfl ?_
    refine zx_get (j := 29) C tC_11 k6 i7 ⟨by decide, Or.inl W_7_8⟩ dX12_checkpoint_9 (.int (tI (σ) (x0) 29)) rfl ?_
    refine zx_icmp_ge C 22 dX12_checkpoint_12 (by decide) (fun c8 => ?_) (fun c8 => ?_)
    · replace hm := ip_e hm c8
      refine zx_aload_n C dX12_checkpoint_22 0 rfl ?_
      rcases clx_e hm with ⟨v9, ρ10, h11, hm⟩ | ⟨ρ10, h11, hm⟩
      · refine zx_callV (σ := σ) C [] tC_11 k6 i7 Y_X12_flush W_7_208 W_7_210 Wp_63 (c_X12_flush h11) (by decide) (by decide) rfl (Nat.le_of_ble_eq_true rfl) dX12_checkpoint_23 rfl ?_
        refine zx_aload_n C dX12_checkpoint_26 0 rfl ?_
        obtain ⟨k12, i13, hm⟩ := ckO_e hm
        rcases clx_e hm with ⟨v14, ρ15, h16, hm⟩ | ⟨ρ15, h16, hm⟩
        · refine zx_callV (σ := ρ10) C [] tC_11 k12 i13 Y_X12_flush W_7_208 W_7_210 Wp_63 (c_X12_flush h16) (by decide) (by decide) rfl (Nat.le_of_ble_eq_true rfl) dX12_checkpoint_27 rfl ?_
          obtain ⟨rfl, rfl⟩ := ret_e hm
          exact zx_vret C rfl rfl rfl dX12_checkpoint_30
        · cases hm
          exact zx_outV (σ := ρ10) C htab [] tC_11 k12 i13 Y_X12_flush W_7_208 W_7_210 Wp_63 (c_X12_flush h16) rfl (by decide) (by decide) rfl (Nat.le_of_ble_eq_true rfl) dX12_checkpoint_27 rfl
      · cases hm
        exact zx_outV (σ := σ) C htab [] tC_11 k6 i7 Y_X12_flush W_7_208 W_7_210 Wp_63 (c_X12_flush h11) rfl (by decide) (by decide) rfl (Nat.le_of_ble_eq_true rfl) dX12_checkpoint_23 rfl
    · replace hm := in_e hm c8
      refine zx_aload_n C dX12_checkpoint_15 0 rfl ?_
      rcases clx_e hm with ⟨v19, ρ20, h21, hm⟩ | ⟨ρ20, h21, hm⟩
      · refine zx_callV (σ := σ) C [] tC_11 k6 i7 Y_X12_applyOne W_8_1 W_8_3 Wp_71 (c_X12_applyOne h21) (by decide) (by decide) rfl (Nat.le_of_ble_eq_true rfl) dX12_checkpoint_16 rfl ?_
        refine zx_goto C 4 dX12_checkpoint_19 (by decide) ?_
        exact zx_lv [0] [(0, .ref (x0))] rfl (hrc4 _ _ hm)
      · cases hm
        exact zx_outV (σ := σ) C htab [] tC_11 k6 i7 Y_X12_applyOne W_8_1 W_8_3 Wp_71 (c_X12_applyOne h21) rfl (by decide) (by decide) rfl (Nat.le_of_ble_eq_true rfl) dX12_checkpoint_16 rfl
set_option maxRecDepth 100000 in
set_option maxHeartbeats 1000000 in
theorem c_X12_checkpoint {l : Launch} {D : va_G} {aC : Nat → ClassId} {b0 fu : Nat} {a0 : Nat} {σ τ : tM} {v : (Unit) ⊕ Unit} (hm : m_X12_checkpoint b0 fu a0 σ = some (v, τ)) : tMt l D aC b0 yX12_checkpoint (Cond.code yX12_checkpoint cX12_checkpoint 1 none) 5 118 [.ref (a0)] σ (rxV "SyncTreeModel$Off" v) τ := by
  unfold m_X12_checkpoint at hm
  obtain ⟨hg, hm⟩ := grw_e hm
  refine tMt_of (n := 0) rfl (Nat.le_of_ble_eq_true rfl) hg ?_
  intro p e s m below meth c C htab hin
  refine zx_lv [0] [(0, .ref (a0))] rfl ?_
  refine zx_aload_n C dX12_checkpoint_0 0 rfl ?_
  obtain ⟨k1, i2, hm⟩ := ckO_e hm
  rcases clx_e hm with ⟨v3, ρ4, h5, hm⟩ | ⟨ρ4, h5, hm⟩
  · refine zx_callV (σ := σ) C [] tC_11 k1 i2 Y_X12_flush W_7_208 W_7_210 Wp_63 (c_X12_flush h5) (by decide) (by decide) rfl (Nat.le_of_ble_eq_true rfl) dX12_checkpoint_1 rfl ?_
    exact zx_lv [0] [(0, .ref (a0))] rfl (l_X12_checkpoint_4 C htab hin  _ _ _ hm)
  · cases hm
    exact zx_outV (σ := σ) C htab [] tC_11 k1 i2 Y_X12_flush W_7_208 W_7_210 Wp_63 (c_X12_flush h5) rfl (by decide) (by decide) rfl (Nat.le_of_ble_eq_true rfl) dX12_checkpoint_1 rfl
abbrev cX12_ensure : ByteArray := prog_13_method_39_code
def yX12_ensure : MethodName := ⟨"SyncTreeModel", "ensure", "(II)V"⟩
theorem Y_X12_ensure : tY yX12_ensure cX12_ensure 4 none 2 := ⟨W_8_118, W_1_14, ⟨by decide +kernel, by decide +kernel⟩, by decide +kernel⟩
theorem dX12_ensure_0 : decode cX12_ensure 0 = .ok (.aload_n 0, 1) := by decide +kernel
theorem dX12_ensure_1 : decode cX12_ensure 1 = .ok (.iload_n 1, 1) := by decide +kernel
theorem dX12_ensure_2 : decode cX12_ensure 2 = .ok (.iload_n 2, 1) := by decide +kernel
theorem dX12_ensure_3 : decode cX12_ensure 3 = .ok (.invokevirtual 259, 3) := by decide +kernel
theorem dX12_ensure_6 : decode cX12_ensure 6 = .ok (.ifCond .eq 4, 3) := by decide +kernel
theorem dX12_ensure_9 : decode cX12_ensure 9 = .ok (.return_, 1) := by decide +kernel
theorem dX12_ensure_10 : decode cX12_ensure 10 = .ok (.aload_n 0, 1) := by decide +kernel
theorem dX12_ensure_11 : decode cX12_ensure 11 = .ok (.getfield 193, 3) := by decide +kernel
theorem dX12_ensure_14 : decode cX12_ensure 14 = .ok (.iload_n 1, 1) := by decide +kernel
theorem dX12_ensure_15 : decode cX12_ensure 15 = .ok (.iconst 1, 1) := by decide +kernel
theorem dX12_ensure_16 : decode cX12_ensure 16 = .ok (.bastore, 1) := by decide +kernel
theorem dX12_ensure_17 : decode cX12_ensure 17 = .ok (.iload_n 2, 1) := by decide +kernel
theorem dX12_ensure_18 : decode cX12_ensure 18 = .ok (.bipush 8, 2) := by decide +kernel
theorem dX12_ensure_20 : decode cX12_ensure 20 = .ok (.if_icmp .lt 33, 3) := by decide +kernel
theorem dX12_ensure_23 : decode cX12_ensure 23 = .ok (.iload_n 2, 1) := by decide +kernel
theorem dX12_ensure_24 : decode cX12_ensure 24 = .ok (.bipush 40, 2) := by decide +kernel
theorem dX12_ensure_26 : decode cX12_ensure 26 = .ok (.if_icmp .ge 27, 3) := by decide +kernel
theorem dX12_ensure_29 : decode cX12_ensure 29 = .ok (.aload_n 0, 1) := by decide +kernel
theorem dX12_ensure_30 : decode cX12_ensure 30 = .ok (.iload_n 1, 1) := by decide +kernel
theorem dX12_ensure_31 : decode cX12_ensure 31 = .ok (.bipush 93, 2) := by decide +kernel
theorem dX12_ensure_33 : decode cX12_ensure 33 = .ok (.invokevirtual 247, 3) := by decide +kernel
theorem dX12_ensure_36 : decode cX12_ensure 36 = .ok (.ifCond .ne 17, 3) := by decide +kernel
theorem dX12_ensure_39 : decode cX12_ensure 39 = .ok (.aload_n 0, 1) := by decide +kernel
theorem dX12_ensure_40 : decode cX12_ensure 40 = .ok (.iload_n 1, 1) := by decide +kernel
theorem dX12_ensure_41 : decode cX12_ensure 41 = .ok (.bipush 93, 2) := by decide +kernel
theorem dX12_ensure_43 : decode cX12_ensure 43 = .ok (.iconst 1, 1) := by decide +kernel
theorem dX12_ensure_44 : decode cX12_ensure 44 = .ok (.aload_n 0, 1) := by decide +kernel
theorem dX12_ensure_45 : decode cX12_ensure 45 = .ok (.iconst 1, 1) := by decide +kernel
theorem dX12_ensure_46 : decode cX12_ensure 46 = .ok (.invokevirtual 262, 3) := by decide +kernel
theorem dX12_ensure_49 : decode cX12_ensure 49 = .ok (.iadd, 1) := by decide +kernel
theorem dX12_ensure_50 : decode cX12_ensure 50 = .ok (.invokevirtual 266, 3) := by decide +kernel
theorem dX12_ensure_53 : decode cX12_ensure 53 = .ok (.iload_n 2, 1) := by decide +kernel
theorem dX12_ensure_54 : decode cX12_ensure 54 = .ok (.bipush 40, 2) := by decide +kernel
theorem dX12_ensure_56 : decode cX12_ensure 56 = .ok (.if_icmp .lt 27, 3) := by decide +kernel
theorem dX12_ensure_59 : decode cX12_ensure 59 = .ok (.aload_n 0, 1) := by decide +kernel
theorem dX12_ensure_60 : decode cX12_ensure 60 = .ok (.iload_n 1, 1) := by decide +kernel
theorem dX12_ensure_61 : decode cX12_ensure 61 = .ok (.bipush 94, 2) := by decide +kernel
theorem dX12_ensure_63 : decode cX12_ensure 63 = .ok (.invokevirtual 247, 3) := by decide +kernel
theorem dX12_ensure_66 : decode cX12_ensure 66 = .ok (.ifCond .ne 17, 3) := by decide +kernel
theorem dX12_ensure_69 : decode cX12_ensure 69 = .ok (.aload_n 0, 1) := by decide +kernel
theorem dX12_ensure_70 : decode cX12_ensure 70 = .ok (.iload_n 1, 1) := by decide +kernel
theorem dX12_ensure_71 : decode cX12_ensure 71 = .ok (.bipush 94, 2) := by decide +kernel
theorem dX12_ensure_73 : decode cX12_ensure 73 = .ok (.iconst 1, 1) := by decide +kernel
theorem dX12_ensure_74 : decode cX12_ensure 74 = .ok (.aload_n 0, 1) := by decide +kernel
theorem dX12_ensure_75 : decode cX12_ensure 75 = .ok (.iconst 1, 1) := by decide +kernel
theorem dX12_ensure_76 : decode cX12_ensure 76 = .ok (.invokevirtual 262, 3) := by decide +kernel
theorem dX12_ensure_79 : decode cX12_ensure 79 = .ok (.iadd, 1) := by decide +kernel
theorem dX12_ensure_80 : decode cX12_ensure 80 = .ok (.invokevirtual 266, 3) := by decide +kernel
theorem dX12_ensure_83 : decode cX12_ensure 83 = .ok (.iload_n 2, 1) := by decide +kernel
theorem dX12_ensure_84 : decode cX12_ensure 84 = .ok (.bipush 40, 2) := by decide +kernel
theorem dX12_ensure_86 : decode cX12_ensure 86 = .ok (.if_icmp .lt 41, 3) := by decide +kernel
theorem dX12_ensure_89 : decode cX12_ensure 89 = .ok (.aload_n 0, 1) := by decide +kernel
theorem dX12_ensure_90 : decode cX12_ensure 90 = .ok (.iload_n 1, 1) := by decide +kernel
theorem dX12_ensure_91 : decode cX12_ensure 91 = .ok (.iload_n 2, 1) := by decide +kernel
theorem dX12_ensure_92 : decode cX12_ensure 92 = .ok (.invokevirtual 253, 3) := by decide +kernel
theorem dX12_ensure_95 : decode cX12_ensure 95 = .ok (.ifCond .ne 32, 3) := by decide +kernel
theorem dX12_ensure_98 : decode cX12_ensure 98 = .ok (.aload_n 0, 1) := by decide +kernel
theorem dX12_ensure_99 : decode cX12_ensure 99 = .ok (.iconst 1, 1) := by decide +kernel
theorem dX12_ensure_100 : decode cX12_ensure 100 = .ok (.invokevirtual 262, 3) := by decide +kernel
theorem dX12_ensure_103 : decode cX12_ensure 103 = .ok (.istore_n 3, 1) := by decide +kernel
theorem dX12_ensure_104 : decode cX12_ensure 104 = .ok (.aload_n 0, 1) := by decide +kernel
theorem dX12_ensure_105 : decode cX12_ensure 105 = .ok (.aload_n 0, 1) := by decide +kernel
theorem dX12_ensure_106 : decode cX12_ensure 106 = .ok (.iload_n 1, 1) := by decide +kernel
theorem dX12_ensure_107 : decode cX12_ensure 107 = .ok (.bipush 94, 2) := by decide +kernel
theorem dX12_ensure_109 : decode cX12_ensure 109 = .ok (.invokevirtual 247, 3) := by decide +kernel
theorem dX12_ensure_112 : decode cX12_ensure 112 = .ok (.iconst 1, 1) := by decide +kernel
theorem dX12_ensure_113 : decode cX12_ensure 113 = .ok (.isub, 1) := by decide +kernel
theorem dX12_ensure_114 : decode cX12_ensure 114 = .ok (.iload_n 2, 1) := by decide +kernel
theorem dX12_ensure_115 : decode cX12_ensure 115 = .ok (.bipush 40, 2) := by decide +kernel
theorem dX12_ensure_117 : decode cX12_ensure 117 = .ok (.isub, 1) := by decide +kernel
theorem dX12_ensure_118 : decode cX12_ensure 118 = .ok (.bipush 32, 2) := by decide +kernel
theorem dX12_ensure_120 : decode cX12_ensure 120 = .ok (.idiv, 1) := by decide +kernel
theorem dX12_ensure_121 : decode cX12_ensure 121 = .ok (.iconst 1, 1) := by decide +kernel
theorem dX12_ensure_122 : decode cX12_ensure 122 = .ok (.iload_n 3, 1) := by decide +kernel
theorem dX12_ensure_123 : decode cX12_ensure 123 = .ok (.iadd, 1) := by decide +kernel
theorem dX12_ensure_124 : decode cX12_ensure 124 = .ok (.invokevirtual 269, 3) := by decide +kernel
theorem dX12_ensure_127 : decode cX12_ensure 127 = .ok (.aload_n 0, 1) := by decide +kernel
theorem dX12_ensure_128 : decode cX12_ensure 128 = .ok (.aload_n 0, 1) := by decide +kernel
theorem dX12_ensure_129 : decode cX12_ensure 129 = .ok (.iload_n 1, 1) := by decide +kernel
theorem dX12_ensure_130 : decode cX12_ensure 130 = .ok (.iconst 0, 1) := by decide +kernel
theorem dX12_ensure_131 : decode cX12_ensure 131 = .ok (.invokevirtual 247, 3) := by decide +kernel
theorem dX12_ensure_134 : decode cX12_ensure 134 = .ok (.iconst 2, 1) := by decide +kernel
theorem dX12_ensure_135 : decode cX12_ensure 135 = .ok (.if_icmp .ne 7, 3) := by decide +kernel
theorem dX12_ensure_138 : decode cX12_ensure 138 = .ok (.iconst 1, 1) := by decide +kernel
theorem dX12_ensure_139 : decode cX12_ensure 139 = .ok (.goto 4, 3) := by decide +kernel
theorem dX12_ensure_142 : decode cX12_ensure 142 = .ok (.iconst 0, 1) := by decide +kernel
theorem dX12_ensure_143 : decode cX12_ensure 143 = .ok (.invokevirtual 262, 3) := by decide +kernel
theorem dX12_ensure_146 : decode cX12_ensure 146 = .ok (.istore_n 3, 1) := by decide +kernel
theorem dX12_ensure_147 : decode cX12_ensure 147 = .ok (.iload_n 2, 1) := by decide +kernel
theorem dX12_ensure_148 : decode cX12_ensure 148 = .ok (.bipush 8, 2) := by decide +kernel
theorem dX12_ensure_150 : decode cX12_ensure 150 = .ok (.if_icmp .ge 18, 3) := by decide +kernel
theorem dX12_ensure_153 : decode cX12_ensure 153 = .ok (.aload_n 0, 1) := by decide +kernel
theorem dX12_ensure_154 : decode cX12_ensure 154 = .ok (.iload_n 1, 1) := by decide +kernel
theorem dX12_ensure_155 : decode cX12_ensure 155 = .ok (.bipush 85, 2) := by decide +kernel
theorem dX12_ensure_157 : decode cX12_ensure 157 = .ok (.iload_n 2, 1) := by decide +kernel
theorem dX12_ensure_158 : decode cX12_ensure 158 = .ok (.iadd, 1) := by decide +kernel
theorem dX12_ensure_159 : decode cX12_ensure 159 = .ok (.iconst 1, 1) := by decide +kernel
theorem dX12_ensure_160 : decode cX12_ensure 160 = .ok (.iload_n 3, 1) := by decide +kernel
theorem dX12_ensure_161 : decode cX12_ensure 161 = .ok (.iadd, 1) := by decide +kernel
theorem dX12_ensure_162 : decode cX12_ensure 162 = .ok (.invokevirtual 266, 3) := by decide +kernel
theorem dX12_ensure_165 : decode cX12_ensure 165 = .ok (.goto 22, 3) := by decide +kernel
theorem dX12_ensure_168 : decode cX12_ensure 168 = .ok (.aload_n 0, 1) := by decide +kernel
theorem dX12_ensure_169 : decode cX12_ensure 169 = .ok (.aload_n 0, 1) := by decide +kernel
theorem dX12_ensure_170 : decode cX12_ensure 170 = .ok (.iload_n 1, 1) := by decide +kernel
theorem dX12_ensure_171 : decode cX12_ensure 171 = .ok (.iload_n 2, 1) := by decide +kernel
theorem dX12_ensure_172 : decode cX12_ensure 172 = .ok (.invokevirtual 253, 3) := by decide +kernel
theorem dX12_ensure_175 : decode cX12_ensure 175 = .ok (.iconst 1, 1) := by decide +kernel
theorem dX12_ensure_176 : decode cX12_ensure 176 = .ok (.isub, 1) := by decide +kernel
theorem dX12_ensure_177 : decode cX12_ensure 177 = .ok (.iload_n 2, 1) := by decide +kernel
theorem dX12_ensure_178 : decode cX12_ensure 178 = .ok (.invokestatic 256, 3) := by decide +kernel
theorem dX12_ensure_181 : decode cX12_ensure 181 = .ok (.iconst 1, 1) := by decide +kernel
theorem dX12_ensure_182 : decode cX12_ensure 182 = .ok (.iload_n 3, 1) := by decide +kernel
theorem dX12_ensure_183 : decode cX12_ensure 183 = .ok (.iadd, 1) := by decide +kernel
theorem dX12_ensure_184 : decode cX12_ensure 184 = .ok (.invokevirtual 269, 3) := by decide +kernel
theorem dX12_ensure_187 : decode cX12_ensure 187 = .ok (.return_, 1) := by decide +kernel
set_option maxRecDepth 100000 in
set_option maxHeartbeats 1000000 in
theorem j_X12_ensure_187 {p : Program} {l : Launch} {e : Env} {s : State} {m : MethodId} {args : Array Value} {below : List Frame} {meth : Method} {c : Code} {D : va_G} {aC : Nat → ClassId} {b0 fu : Nat} {σ0 τ : tM} {v : Unit}  (C : tCx p l s m args meth c yX12_ensure.cls cX12_ensure 4 none D aC b0 σ0) (htab : ∀ x ∈ c.exceptionTable.toList, False) (hin : meth.name = yX12_ensure.name)   {σ : tM} (hm : J_X12_ensure_187 b0 fu   σ = some (v, τ)) : tX p l e s m args below meth c 4 4 93 D aC b0 σ0 (.inl none) τ 187 [] [] σ := by
  unfold J_X12_ensure_187 at hm
  obtain ⟨rfl, rfl⟩ := ret_e hm
  exact zx_vret C rfl rfl rfl dX12_ensure_187
set_option maxRecDepth 100000 in
set_option maxHeartbeats 1000000 in
theorem j_X12_ensure_143 {p : Program} {l : Launch} {e : Env} {s : State} {m : MethodId} {args : Array Value} {below : List Frame} {meth : Method} {c : Code} {D : va_G} {aC : Nat → ClassId} {b0 fu : Nat} {σ0 τ : tM} {v : Unit}  (C : tCx p l s m args meth c yX12_ensure.cls cX12_ensure 4 none D aC b0 σ0) (htab : ∀ x ∈ c.exceptionTable.toList, False) (hin : meth.name = yX12_ensure.name)  {x0 : Nat} {x1 : Int32} {x2 : Int32} {s0 : Nat} {s1 : Int32} {σ : tM} (hm : J_X12_ensure_143 b0 fu  x0 x1 x2 s0 s1 σ = some (v, τ)) : tX p l e s m args below meth c 4 4 93 D aC b0 σ0 (.inl none) τ 143 [(0, .ref (x0)), (1, .int (x1)), (2, .int (x2))] [.int (s1), .ref (s0)] σ := by
  unfold J_X12_ensure_143 at hm
  obtain ⟨k24, i25, hm⟩ := ckO_e hm
  obtain ⟨v26, ρ27, h28, hm⟩ := cll_e hm
  refine zx_callV (σ := σ) C [.int (s1)] tC_11 k24 i25 Y_X12_get W_8_119 W_8_121 Wp_99 (c_X12_get h28) (by decide) (by decide) rfl (Nat.le_of_ble_eq_true rfl) dX12_ensure_143 rfl ?_
  refine zx_istore_n C [(3, .int (v26)), (0, .ref (x0)), (1, .int (x1)), (2, .int (x2))] dX12_ensure_146 rfl (by decide) rfl ?_
  refine zx_iload_n C dX12_ensure_147 3 rfl ?_
  refine zx_bipush (v := 8) C dX12_ensure_148 (by decide) ?_
  refine zx_icmp_ge C 168 dX12_ensure_150 (by decide) (fun c29 => ?_) (fun c29 => ?_)
  · replace hm := ip_e hm c29
    refine zx_aload_n C dX12_ensure_168 1 rfl ?_
    refine zx_aload_n C dX12_ensure_169 1 rfl ?_
    refine zx_iload_n C dX12_ensure_170 2 rfl ?_
    refine zx_iload_n C dX12_ensure_171 3 rfl ?_
    obtain ⟨k30, i31, hm⟩ := ckO_e hm
    obtain ⟨v32, ρ33, h34, hm⟩ := cll_e hm
    refine zx_callV (σ := ρ27) C [.int (x1), .int (x2)] tC_11 k30 i31 Y_X12_leafOf W_8_64 W_8_66 Wp_86 (c_X12_leafOf h34) (by decide) (by decide) rfl (Nat.le_of_ble_eq_true rfl) dX12_ensure_172 rfl ?_
    refine zx_iconst (v := 1) C dX12_ensure_175 (by decide) ?_
    refine zx_isub C dX12_ensure_176 ?_
    refine zx_iload_n C dX12_ensure_177 3 rfl ?_
    obtain ⟨v35, ρ36, h37, hm⟩ := cll_e hm
    refine zx_callS (σ := ρ33) C [.int (x2)] Y_X12_placeOf W_8_72 W_8_73 (c_X12_placeOf h37) (by decide) (by decide) rfl (Nat.le_of_ble_eq_true rfl) dX12_ensure_178 rfl ?_
    refine zx_iconst (v := 1) C dX12_ensure_181 (by decide) ?_
    refine zx_iload_n C dX12_ensure_182 0 rfl ?_
    refine zx_iadd C dX12_ensure_183 ?_
    obtain ⟨k38, i39, hm⟩ := ckO_e hm
    obtain ⟨v40, ρ41, h42, hm⟩ := cll_e hm
    refine zx_callV (σ := ρ36) C [.int ((v32) - (1)), .int (v35), .int ((1) + (v26))] tC_11 k38 i39 Y_X12_putPointer W_8_127 W_8_129 Wp_101 (c_X12_putPointer h42) (by decide) (by decide) rfl (Nat.le_of_ble_eq_true rfl) dX12_ensure_184 rfl ?_
    exact zx_lv [] [] rfl (j_X12_ensure_187 C htab hin    hm)
  · replace hm := in_e hm c29
    refine zx_aload_n C dX12_ensure_153 1 rfl ?_
    refine zx_iload_n C dX12_ensure_154 2 rfl ?_
    refine zx_bipush (v := 85) C dX12_ensure_155 (by decide) ?_
    refine zx_iload_n C dX12_ensure_157 3 rfl ?_
    refine zx_iadd C dX12_ensure_158 ?_
    refine zx_iconst (v := 1) C dX12_ensure_159 (by decide) ?_
    refine zx_iload_n C dX12_ensure_160 0 rfl ?_
    refine zx_iadd C dX12_ensure_161 ?_
    obtain ⟨k43, i44, hm⟩ := ckO_e hm
    obtain ⟨v45, ρ46, h47, hm⟩ := cll_e hm
    refine zx_callV (σ := ρ27) C [.int (x1), .int ((85) + (x2)), .int ((1) + (v26))] tC_11 k43 i44 Y_X12_putNode W_8_99 W_8_101 Wp_94 (c_X12_putNode h47) (by decide) (by decide) rfl (Nat.le_of_ble_eq_true rfl) dX12_ensure_162 rfl ?_
    refine zx_goto C 187 dX12_ensure_165 (by decide) ?_
    exact zx_lv [] [] rfl (j_X12_ensure_187 C htab hin    hm)
set_option maxRecDepth 100000 in
set_option maxHeartbeats 1000000 in
theorem j_X12_ensure_127 {p : Program} {l : Launch} {e : Env} {s : State} {m : MethodId} {args : Array Value} {below : List Frame} {meth : Method} {c : Code} {D : va_G} {aC : Nat → ClassId} {b0 fu : Nat} {σ0 τ : tM} {v : Unit}  (C : tCx p l s m args meth c yX12_ensure.cls cX12_ensure 4 none D aC b0 σ0) (htab : ∀ x ∈ c.exceptionTable.toList, False) (hin : meth.name = yX12_ensure.name)  {x0 : Nat} {x1 : Int32} {x2 : Int32} {σ : tM} (hm : J_X12_ensure_127 b0 fu  x0 x1 x2 σ = some (v, τ)) : tX p l e s m args below meth c 4 4 93 D aC b0 σ0 (.inl none) τ 127 [(0, .ref (x0)), (1, .int (x1)), (2, .int (x2))] [] σ := by
  unfold J_X12_ensure_127 at hm
  refine zx_aload_n C dX12_ensure_127 0 rfl ?_
  refine zx_aload_n C dX12_ensure_128 0 rfl ?_
  refine zx_iload_n C dX12_ensure_129 1 rfl ?_
  refine zx_iconst (v := 0) C dX12_ensure_130 (by decide) ?_
  obtain ⟨k18, i19, hm⟩ := ckO_e hm
  obtain ⟨v20, ρ21, h22, hm⟩ := cll_e hm
  refine zx_callV (σ := σ) C [.int (x1), .int (0)] tC_11 k18 i19 Y_X12_node W_8_40 W_8_42 Wp_80 (c_X12_node h22) (by decide) (by decide) rfl (Nat.le_of_ble_eq_true rfl) dX12_ensure_131 rfl ?_
  refine zx_iconst (v := 2) C dX12_ensure_134 (by decide) ?_
  refine zx_icmp_ne C 142 dX12_ensure_135 (by decide) (fun c23 => ?_) (fun c23 => ?_)
  · replace hm := in_e hm c23
    refine zx_iconst (v := 0) C dX12_ensure_142 (by decide) ?_
    exact zx_lv [0, 1, 2] [(0, .ref (x0)), (1, .int (x1)), (2, .int (x2))] rfl (j_X12_ensure_143 C htab hin    hm)
  · replace hm := ip_e hm c23
    refine zx_iconst (v := 1) C dX12_ensure_138 (by decide) ?_
    refine zx_goto C 143 dX12_ensure_139 (by decide) ?_
    exact zx_lv [0, 1, 2] [(0, .ref (x0)), (1, .int (x1)), (2, .int (x2))] rfl (j_X12_ensure_143 C htab hin    hm)
set_option maxRecDepth 100000 in
set_option maxHeartbeats 1000000 in
theorem j_X12_ensure_83 {p : Program} {l : Launch} {e : Env} {s : State} {m : MethodId} {args : Array Value} {below : List Frame} {meth : Method} {c : Code} {D : va_G} {aC : Nat → ClassId} {b0 fu : Nat} {σ0 τ : tM} {v : Unit}  (C : tCx p l s m args meth c yX12_ensure.cls cX12_ensure 4 none D aC b0 σ0) (htab : ∀ x ∈ c.exceptionTable.toList, False) (hin : meth.name = yX12_ensure.name)  {x0 : Nat} {x1 : Int32} {x2 : Int32} {σ : tM} (hm : J_X12_ensure_83 b0 fu  x0 x1 x2 σ = some (v, τ)) : tX p l e s m args below meth c 4 4 93 D aC b0 σ0 (.inl none) τ 83 [(0, .ref (x0)), (1, .int (x1)), (2, .int (x2))] [] σ := by
  unfold J_X12_ensure_83 at hm
  refine zx_iload_n C dX12_ensure_83 2 rfl ?_
  refine zx_bipush (v := 40) C dX12_ensure_84 (by decide) ?_
  refine zx_icmp_lt C 127 dX12_ensure_86 (by decide) (fun c17 => ?_) (fun c17 => ?_)
  · replace hm := ip_e hm c17
    exact zx_lv [0, 1, 2] [(0, .ref (x0)), (1, .int (x1)), (2, .int (x2))] rfl (j_X12_ensure_127 C htab hin    hm)
  · replace hm := in_e hm c17
    refine zx_aload_n C dX12_ensure_89 0 rfl ?_
    refine zx_iload_n C dX12_ensure_90 1 rfl ?_
    refine zx_iload_n C dX12_ensure_91 2 rfl ?_
    obtain ⟨k48, i49, hm⟩ := ckO_e hm
    obtain ⟨v50, ρ51, h52, hm⟩ := cll_e hm
    refine zx_callV (σ := σ) C [.int (x1), .int (x2)] tC_11 k48 i49 Y_X12_leafOf W_8_64 W_8_66 Wp_86 (c_X12_leafOf h52) (by decide) (by decide) rfl (Nat.le_of_ble_eq_true rfl) dX12_ensure_92 rfl ?_
    refine zx_if_ne C 127 dX12_ensure_95 (by decide) (fun c53 => ?_) (fun c53 => ?_)
    · replace hm := in_e hm c53
      exact zx_lv [0, 1, 2] [(0, .ref (x0)), (1, .int (x1)), (2, .int (x2))] rfl (j_X12_ensure_127 C htab hin    hm)
    · replace hm := ip_e hm c53
      refine zx_aload_n C dX12_ensure_98 0 rfl ?_
      refine zx_iconst (v := 1) C dX12_ensure_99 (by decide) ?_
      obtain ⟨k54, i55, hm⟩ := ckO_e hm
      obtain ⟨v56, ρ57, h58, hm⟩ := cll_e hm
      refine zx_callV (σ := ρ51) C [.int (1)] tC_11 k54 i55 Y_X12_get W_8_119 W_8_121 Wp_99 (c_X12_get h58) (by decide) (by decide) rfl (Nat.le_of_ble_eq_true rfl) dX12_ensure_100 rfl ?_
      refine zx_istore_n C [(3, .int (v56)), (0, .ref (x0)), (1, .int (x1)), (2, .int (x2))] dX12_ensure_103 rfl (by decide) rfl ?_
      refine zx_aload_n C dX12_ensure_104 1 rfl ?_
      refine zx_aload_n C dX12_ensure_105 1 rfl ?_
      refine zx_iload_n C dX12_ensure_106 2 rfl ?_
      refine zx_bipush (v := 94) C dX12_ensure_107 (by decide) ?_
      obtain ⟨k59, i60, hm⟩ := ckO_e hm
      obtain ⟨v61, ρ62, h63, hm⟩ := cll_e hm
      refine zx_callV (σ := ρ57) C [.int (x1), .int (94)] tC_11 k59 i60 Y_X12_node W_8_40 W_8_42 Wp_80 (c_X12_node h63) (by decide) (by decide) rfl (Nat.le_of_ble_eq_true rfl) dX12_ensure_109 rfl ?_
      refine zx_iconst (v := 1) C dX12_ensure_112 (by decide) ?_
      refine zx_isub C dX12_ensure_113 ?_
      refine zx_iload_n C dX12_ensure_114 3 rfl ?_
      refine zx_bipush (v := 40) C dX12_ensure_115 (by decide) ?_
      refine zx_isub C dX12_ensure_117 ?_
      refine zx_bipush (v := 32) C dX12_ensure_118 (by decide) ?_
      refine zx_idiv C dX12_ensure_120 (by decide) ?_
      refine zx_iconst (v := 1) C dX12_ensure_121 (by decide) ?_
      refine zx_iload_n C dX12_ensure_122 0 rfl ?_
      refine zx_iadd C dX12_ensure_123 ?_
      obtain ⟨k64, i65, hm⟩ := ckO_e hm
      obtain ⟨v66, ρ67, h68, hm⟩ := cll_e hm
      refine zx_callV (σ := ρ62) C [.int ((v61) - (1)), .int (((x2) - (40)) / (32)), .int ((1) + (v56))] tC_11 k64 i65 Y_X12_putPointer W_8_127 W_8_129 Wp_101 (c_X12_putPointer h68) (by decide) (by decide) rfl (Nat.le_of_ble_eq_true rfl) dX12_ensure_124 rfl ?_
      exact zx_lv [1, 2, 3] [(0, .ref (x0)), (1, .int (x1)), (2, .int (x2))] rfl (j_X12_ensure_127 C htab hin    hm)
set_option maxRecDepth 100000 in
set_option maxHeartbeats 1000000 in
theorem j_X12_ensure_53 {p : Program} {l : Launch} {e : Env} {s : State} {m : MethodId} {args : Array Value} {below : List Frame} {meth : Method} {c : Code} {D : va_G} {aC : Nat → ClassId} {b0 fu : Nat} {σ0 τ : tM} {v : Unit}  (C : tCx p l s m args meth c yX12_ensure.cls cX12_ensure 4 none D aC b0 σ0) (htab : ∀ x ∈ c.exceptionTable.toList, False) (hin : meth.name = yX12_ensure.name)  {x0 : Nat} {x1 : Int32} {x2 : Int32} {σ : tM} (hm : J_X12_ensure_53 b0 fu  x0 x1 x2 σ = some (v, τ)) : tX p l e s m args below meth c 4 4 93 D aC b0 σ0 (.inl none) τ 53 [(0, .ref (x0)), (1, .int (x1)), (2, .int (x2))] [] σ := by
  unfold J_X12_ensure_53 at hm
  refine zx_iload_n C dX12_ensure_53 2 rfl ?_
  refine zx_bipush (v := 40) C dX12_ensure_54 (by decide) ?_
  refine zx_icmp_lt C 83 dX12_ensure_56 (by decide) (fun c16 => ?_) (fun c16 => ?_)
  · replace hm := ip_e hm c16
    exact zx_lv [0, 1, 2] [(0, .ref (x0)), (1, .int (x1)), (2, .int (x2))] rfl (j_X12_ensure_83 C htab hin    hm)
  · replace hm := in_e hm c16
    refine zx_aload_n C dX12_ensure_59 0 rfl ?_
    refine zx_iload_n C dX12_ensure_60 1 rfl ?_
    refine zx_bipush (v := 94) C dX12_ensure_61 (by decide) ?_
    obtain ⟨k70, i71, hm⟩ := ckO_e hm
    obtain ⟨v72, ρ73, h74, hm⟩ := cll_e hm
    refine zx_callV (σ := σ) C [.int (x1), .int (94)] tC_11 k70 i71 Y_X12_node W_8_40 W_8_42 Wp_80 (c_X12_node h74) (by decide) (by decide) rfl (Nat.le_of_ble_eq_true rfl) dX12_ensure_63 rfl ?_
    refine zx_if_ne C 83 dX12_ensure_66 (by decide) (fun c75 => ?_) (fun c75 => ?_)
    · replace hm := in_e hm c75
      exact zx_lv [0, 1, 2] [(0, .ref (x0)), (1, .int (x1)), (2, .int (x2))] rfl (j_X12_ensure_83 C htab hin    hm)
    · replace hm := ip_e hm c75
      refine zx_aload_n C dX12_ensure_69 0 rfl ?_
      refine zx_iload_n C dX12_ensure_70 1 rfl ?_
      refine zx_bipush (v := 94) C dX12_ensure_71 (by decide) ?_
      refine zx_iconst (v := 1) C dX12_ensure_73 (by decide) ?_
      refine zx_aload_n C dX12_ensure_74 0 rfl ?_
      refine zx_iconst (v := 1) C dX12_ensure_75 (by decide) ?_
      obtain ⟨k76, i77, hm⟩ := ckO_e hm
      obtain ⟨v78, ρ79, h80, hm⟩ := cll_e hm
      refine zx_callV (σ := ρ73) C [.int (1)] tC_11 k76 i77 Y_X12_get W_8_119 W_8_121 Wp_99 (c_X12_get h80) (by decide) (by decide) rfl (Nat.le_of_ble_eq_true rfl) dX12_ensure_76 rfl ?_
      refine zx_iadd C dX12_ensure_79 ?_
      obtain ⟨k81, i82, hm⟩ := ckO_e hm
      obtain ⟨v83, ρ84, h85, hm⟩ := cll_e hm
      refine zx_callV (σ := ρ79) C [.int (x1), .int (94), .int ((1) + (v78))] tC_11 k81 i82 Y_X12_putNode W_8_99 W_8_101 Wp_94 (c_X12_putNode h85) (by decide) (by decide) rfl (Nat.le_of_ble_eq_true rfl) dX12_ensure_80 rfl ?_
      exact zx_lv [0, 1, 2] [(0, .ref (x0)), (1, .int (x1)), (2, .int (x2))] rfl (j_X12_ensure_83 C htab hin    hm)
set_option maxRecDepth 100000 in
set_option maxHeartbeats 1000000 in
theorem c_X12_ensure {l : Launch} {D : va_G} {aC : Nat → ClassId} {b0 fu : Nat} {a0 : Nat} {p0 : Int32} {p1 : Int32} {σ τ : tM} {v : Unit} (hm : m_X12_ensure b0 fu a0 p0 p1 σ = some (v, τ)) : tMt l D aC b0 yX12_ensure (Cond.code yX12_ensure cX12_ensure 4 none) 4 93 [.ref (a0), .int (p0), .int (p1)] σ (.inl none) τ := by
  unfold m_X12_ensure at hm
  obtain ⟨hg, hm⟩ := grw_e hm
  refine tMt_of (n := 0) rfl (Nat.le_of_ble_eq_true rfl) hg ?_
  intro p e s m below meth c C htab hin
  refine zx_lv [0, 1, 2] [(0, .ref (a0)), (1, .int (p0)), (2, .int (p1))] rfl ?_
  refine zx_aload_n C dX12_ensure_0 0 rfl ?_
  refine zx_iload_n C dX12_ensure_1 1 rfl ?_
  refine zx_iload_n C dX12_ensure_2 2 rfl ?_
  obtain ⟨k1, i2, hm⟩ := ckO_e hm
  obtain ⟨v3, ρ4, h5, hm⟩ := cll_e hm
  refine zx_callV (σ := σ) C [.int (p0), .int (p1)] tC_11 k1 i2 Y_X12_has W_8_60 W_8_62 Wp_85 (c_X12_has h5) (by decide) (by decide) rfl (Nat.le_of_ble_eq_true rfl) dX12_ensure_3 rfl ?_
  refine zx_if_eq C 10 dX12_ensure_6 (by decide) (fun c6 => ?_) (fun c6 => ?_)
  · replace hm := ip_e hm c6
    refine zx_aload_n C dX12_ensure_10 0 rfl ?_
    obtain ⟨k7, i8, hm⟩ := ckO_e hm
    obtain ⟨a9, h10, hm⟩ := osm_e hm
    refine zx_get (j := 25) C tC_11 k7 i8 ⟨by decide, Or.inl W_7_4⟩ dX12_ensure_11 (.ref a9) (rf_s h10) ?_
    refine zx_iload_n C dX12_ensure_14 1 rfl ?_
    refine zx_iconst (v := 1) C dX12_ensure_15 (by decide) ?_
    obtain ⟨n13, k11, i12, hm⟩ := ckR_e hm
    obtain ⟨h14, hm⟩ := ckI_e hm
    refine zx_zast C k11 i12 h14 dX12_ensure_16 ?_
    refine zx_iload_n C dX12_ensure_17 2 rfl ?_
    refine zx_bipush (v := 8) C dX12_ensure_18 (by decide) ?_
    refine zx_icmp_lt C 53 dX12_ensure_20 (by decide) (fun c15 => ?_) (fun c15 => ?_)
    · replace hm := ip_e hm c15
      exact zx_lv [0, 1, 2] [(0, .ref (a0)), (1, .int (p0)), (2, .int (p1))] rfl (j_X12_ensure_53 C htab hin    hm)
    · replace hm := in_e hm c15
      refine zx_iload_n C dX12_ensure_23 2 rfl ?_
      refine zx_bipush (v := 40) C dX12_ensure_24 (by decide) ?_
      refine zx_icmp_ge C 53 dX12_ensure_26 (by decide) (fun c86 => ?_) (fun c86 => ?_)
      · replace hm := ip_e hm c86
        exact zx_lv [0, 1, 2] [(0, .ref (a0)), (1, .int (p0)), (2, .int (p1))] rfl (j_X12_ensure_53 C htab hin    hm)
      · replace hm := in_e hm c86
        refine zx_aload_n C dX12_ensure_29 0 rfl ?_
        refine zx_iload_n C dX12_ensure_30 1 rfl ?_
        refine zx_bipush (v := 93) C dX12_ensure_31 (by decide) ?_
        obtain ⟨v87, ρ88, h89, hm⟩ := cll_e hm
        refine zx_callV (σ := sI (ρ4) (a9) ((p0).toNatClampNeg) (vp_nar .boolean ((1 : Int32)))) C [.int (p0), .int (93)] tC_11 k7 i8 Y_X12_node W_8_40 W_8_42 Wp_80 (c_X12_node h89) (by decide) (by decide) rfl (Nat.le_of_ble_eq_true rfl) dX12_ensure_33 rfl ?_
        refine zx_if_ne C 53 dX12_ensure_36 (by decide) (fun c90 => ?_) (fun c90 => ?_)
        · replace hm := in_e hm c90
          exact zx_lv [0, 1, 2] [(0, .ref (a0)), (1, .int (p0)), (2, .int (p1))] rfl (j_X12_ensure_53 C htab hin    hm)
        · replace hm := ip_e hm c90
          refine zx_aload_n C dX12_ensure_39 0 rfl ?_
          refine zx_iload_n C dX12_ensure_40 1 rfl ?_
          refine zx_bipush (v := 93) C dX12_ensure_41 (by decide) ?_
          refine zx_iconst (v := 1) C dX12_ensure_43 (by decide) ?_
          refine zx_aload_n C dX12_ensure_44 0 rfl ?_
          refine zx_iconst (v := 1) C dX12_ensure_45 (by decide) ?_
          obtain ⟨k91, i92, hm⟩ := ckO_e hm
          obtain ⟨v93, ρ94, h95, hm⟩ := cll_e hm
          refine zx_callV (σ := ρ88) C [.int (1)] tC_11 k91 i92 Y_X12_get W_8_119 W_8_121 Wp_99 (c_X12_get h95) (by decide) (by decide) rfl (Nat.le_of_ble_eq_true rfl) dX12_ensure_46 rfl ?_
          refine zx_iadd C dX12_ensure_49 ?_
          obtain ⟨k96, i97, hm⟩ := ckO_e hm
          obtain ⟨v98, ρ99, h100, hm⟩ := cll_e hm
          refine zx_callV (σ := ρ94) C [.int (p0), .int (93), .int ((1) + (v93))] tC_11 k96 i97 Y_X12_putNode W_8_99 W_8_101 Wp_94 (c_X12_putNode h100) (by decide) (by decide) rfl (Nat.le_of_ble_eq_true rfl) dX12_ensure_50 rfl ?_
          exact zx_lv [0, 1, 2] [(0, .ref (a0)), (1, .int (p0)), (2, .int (p1))] rfl (j_X12_ensure_53 C htab hin    hm)
  · replace hm := in_e hm c6
    obtain ⟨rfl, rfl⟩ := ret_e hm
    exact zx_vret C rfl rfl rfl dX12_ensure_9
