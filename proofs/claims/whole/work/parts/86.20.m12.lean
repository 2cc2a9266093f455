abbrev cX0_put : ByteArray := prog_2_method_6_code
def yX0_put : MethodName := ⟨"SyncTree$Disk", "put", "(II)V"⟩
theorem Y_X0_put : tY yX0_put cX0_put 4 none 2 := ⟨W_3_231, W_1_2, ⟨by decide +kernel, by decide +kernel⟩, by decide +kernel⟩
theorem dX0_put_0 : decode cX0_put 0 = .ok (.aload_n 0, 1) := by decide +kernel
theorem dX0_put_1 : decode cX0_put 1 = .ok (.invokevirtual 84, 3) := by decide +kernel
theorem dX0_put_4 : decode cX0_put 4 = .ok (.iload_n 1, 1) := by decide +kernel
theorem dX0_put_5 : decode cX0_put 5 = .ok (.ifCond .lt 11, 3) := by decide +kernel
theorem dX0_put_8 : decode cX0_put 8 = .ok (.iload_n 1, 1) := by decide +kernel
theorem dX0_put_9 : decode cX0_put 9 = .ok (.aload_n 0, 1) := by decide +kernel
theorem dX0_put_10 : decode cX0_put 10 = .ok (.getfield 40, 3) := by decide +kernel
theorem dX0_put_13 : decode cX0_put 13 = .ok (.if_icmp .lt 4, 3) := by decide +kernel
theorem dX0_put_16 : decode cX0_put 16 = .ok (.return_, 1) := by decide +kernel
theorem dX0_put_17 : decode cX0_put 17 = .ok (.aload_n 0, 1) := by decide +kernel
theorem dX0_put_18 : decode cX0_put 18 = .ok (.getfield 56, 3) := by decide +kernel
theorem dX0_put_21 : decode cX0_put 21 = .ok (.sipush 256, 3) := by decide +kernel
theorem dX0_put_24 : decode cX0_put 24 = .ok (.if_icmp .lt 7, 3) := by decide +kernel
theorem dX0_put_27 : decode cX0_put 27 = .ok (.aload_n 0, 1) := by decide +kernel
theorem dX0_put_28 : decode cX0_put 28 = .ok (.invokevirtual 87, 3) := by decide +kernel
theorem dX0_put_31 : decode cX0_put 31 = .ok (.aload_n 0, 1) := by decide +kernel
theorem dX0_put_32 : decode cX0_put 32 = .ok (.getfield 53, 3) := by decide +kernel
theorem dX0_put_35 : decode cX0_put 35 = .ok (.aload_n 0, 1) := by decide +kernel
theorem dX0_put_36 : decode cX0_put 36 = .ok (.getfield 56, 3) := by decide +kernel
theorem dX0_put_39 : decode cX0_put 39 = .ok (.iadd, 1) := by decide +kernel
theorem dX0_put_40 : decode cX0_put 40 = .ok (.sipush 256, 3) := by decide +kernel
theorem dX0_put_43 : decode cX0_put 43 = .ok (.irem, 1) := by decide +kernel
theorem dX0_put_44 : decode cX0_put 44 = .ok (.istore_n 3, 1) := by decide +kernel
theorem dX0_put_45 : decode cX0_put 45 = .ok (.aload_n 0, 1) := by decide +kernel
theorem dX0_put_46 : decode cX0_put 46 = .ok (.getfield 27, 3) := by decide +kernel
theorem dX0_put_49 : decode cX0_put 49 = .ok (.iload_n 3, 1) := by decide +kernel
theorem dX0_put_50 : decode cX0_put 50 = .ok (.iload_n 1, 1) := by decide +kernel
theorem dX0_put_51 : decode cX0_put 51 = .ok (.iastore, 1) := by decide +kernel
theorem dX0_put_52 : decode cX0_put 52 = .ok (.aload_n 0, 1) := by decide +kernel
theorem dX0_put_53 : decode cX0_put 53 = .ok (.getfield 30, 3) := by decide +kernel
theorem dX0_put_56 : decode cX0_put 56 = .ok (.iload_n 3, 1) := by decide +kernel
theorem dX0_put_57 : decode cX0_put 57 = .ok (.iload_n 2, 1) := by decide +kernel
theorem dX0_put_58 : decode cX0_put 58 = .ok (.iastore, 1) := by decide +kernel
theorem dX0_put_59 : decode cX0_put 59 = .ok (.aload_n 0, 1) := by decide +kernel
theorem dX0_put_60 : decode cX0_put 60 = .ok (.getfield 36, 3) := by decide +kernel
theorem dX0_put_63 : decode cX0_put 63 = .ok (.iload_n 3, 1) := by decide +kernel
theorem dX0_put_64 : decode cX0_put 64 = .ok (.iconst 0, 1) := by decide +kernel
theorem dX0_put_65 : decode cX0_put 65 = .ok (.bastore, 1) := by decide +kernel
theorem dX0_put_66 : decode cX0_put 66 = .ok (.aload_n 0, 1) := by decide +kernel
theorem dX0_put_67 : decode cX0_put 67 = .ok (.dup, 1) := by decide +kernel
theorem dX0_put_68 : decode cX0_put 68 = .ok (.getfield 56, 3) := by decide +kernel
theorem dX0_put_71 : decode cX0_put 71 = .ok (.iconst 1, 1) := by decide +kernel
theorem dX0_put_72 : decode cX0_put 72 = .ok (.iadd, 1) := by decide +kernel
theorem dX0_put_73 : decode cX0_put 73 = .ok (.putfield 56, 3) := by decide +kernel
theorem dX0_put_76 : decode cX0_put 76 = .ok (.aload_n 0, 1) := by decide +kernel
theorem dX0_put_77 : decode cX0_put 77 = .ok (.getfield 21, 3) := by decide +kernel
theorem dX0_put_80 : decode cX0_put 80 = .ok (.iload_n 1, 1) := by decide +kernel
theorem dX0_put_81 : decode cX0_put 81 = .ok (.dup2, 1) := by decide +kernel
theorem dX0_put_82 : decode cX0_put 82 = .ok (.iaload, 1) := by decide +kernel
theorem dX0_put_83 : decode cX0_put 83 = .ok (.iconst 1, 1) := by decide +kernel
theorem dX0_put_84 : decode cX0_put 84 = .ok (.iadd, 1) := by decide +kernel
theorem dX0_put_85 : decode cX0_put 85 = .ok (.iastore, 1) := by decide +kernel
theorem dX0_put_86 : decode cX0_put 86 = .ok (.return_, 1) := by decide +kernel
set_option maxRecDepth 100000 in
set_option maxHeartbeats 1000000 in
theorem j_X0_put_16 {p : Program} {l : Launch} {e : Env} {s : State} {m : MethodId} {args : Array Value} {below : List Frame} {meth : Method} {c : Code} {D : va_G} {aC : Nat → ClassId} {b0 fu : Nat} {σ0 τ : tM} {v : (Unit) ⊕ Unit}  (C : tCx p l s m args meth c yX0_put.cls cX0_put 4 none D aC b0 σ0) (htab : ∀ x ∈ c.exceptionTable.toList, False) (hin : meth.name = yX0_put.name)   {σ : tM} (hm : J_X0_put_16 b0 fu   σ = some (v, τ)) : tX p l e s m args below meth c 4 7 110 D aC b0 σ0 (rxV "java/lang/IllegalStateException" v) τ 16 [] [] σ := by
  unfold J_X0_put_16 at hm
  obtain ⟨rfl, rfl⟩ := ret_e hm
  exact zx_vret C rfl rfl rfl dX0_put_16
set_option maxRecDepth 100000 in
set_option maxHeartbeats 1000000 in
theorem j_X0_put_31 {p : Program} {l : Launch} {e : Env} {s : State} {m : MethodId} {args : Array Value} {below : List Frame} {meth : Method} {c : Code} {D : va_G} {aC : Nat → ClassId} {b0 fu : Nat} {σ0 τ : tM} {v : (Unit) ⊕ Unit}  (C : tCx p l s m args meth c yX0_put.cls cX0_put 4 none D aC b0 σ0) (htab : ∀ x ∈ c.exceptionTable.toList, False) (hin : meth.name = yX0_put.name)  {x0 : Nat} {x1 : Int32} {x2 : Int32} {σ : tM} (hm : J_X0_put_31 b0 fu  x0 x1 x2 σ = some (v, τ)) : tX p l e s m args below meth c 4 7 110 D aC b0 σ0 (rxV "java/lang/IllegalStateException" v) τ 31 [(0, .ref (x0)), (1, .int (x1)), (2, .int (x2))] [] σ := by
  unfold J_X0_put_31 at hm
  refine zx_aload_n C dX0_put_31 0 rfl ?_
  obtain ⟨k11, i12, hm⟩ := ckO_e hm
  refine zx_get (j := 9) C tC_0 k11 i12 ⟨by decide, Or.inl W_1_45⟩ dX0_put_32 (.int (tI (σ) (x0) 9)) rfl ?_
  refine zx_aload_n C dX0_put_35 0 rfl ?_
  refine zx_get (j := 10) C tC_0 k11 i12 ⟨by decide, Or.inl W_1_46⟩ dX0_put_36 (.int (tI (σ) (x0) 10)) rfl ?_
  refine zx_iadd C dX0_put_39 ?_
  refine zx_sipush (v := 256) C dX0_put_40 (by decide) ?_
  refine zx_irem C dX0_put_43 (by decide) ?_
  refine zx_topi (fun y13 hy13 => ?_)
  replace hm := ltb_e hm hy13
  refine zx_istore_n C [(3, .int (y13)), (0, .ref (x0)), (1, .int (x1)), (2, .int (x2))] dX0_put_44 rfl (by decide) rfl ?_
  refine zx_aload_n C dX0_put_45 1 rfl ?_
  obtain ⟨a14, h15, hm⟩ := osm_e hm
  refine zx_get (j := 4) C tC_0 k11 i12 ⟨by decide, Or.inl W_1_40⟩ dX0_put_46 (.ref a14) (rf_s h15) ?_
  refine zx_iload_n C dX0_put_49 0 rfl ?_
  refine zx_iload_n C dX0_put_50 2 rfl ?_
  obtain ⟨n18, k16, i17, hm⟩ := ckR_e hm
  obtain ⟨h19, hm⟩ := ckI_e hm
  refine zx_iast C k16 i17 h19 dX0_put_51 ?_
  refine zx_aload_n C dX0_put_52 1 rfl ?_
  obtain ⟨a20, h21, hm⟩ := osm_e hm
  refine zx_get (j := 5) C tC_0 k11 i12 ⟨by decide, Or.inl W_1_41⟩ dX0_put_53 (.ref a20) (rf_s h21) ?_
  refine zx_iload_n C dX0_put_56 0 rfl ?_
  refine zx_iload_n C dX0_put_57 3 rfl ?_
  obtain ⟨n24, k22, i23, hm⟩ := ckR_e hm
  obtain ⟨h25, hm⟩ := ckI_e hm
  refine zx_iast C k22 i23 h25 dX0_put_58 ?_
  refine zx_aload_n C dX0_put_59 1 rfl ?_
  obtain ⟨a26, h27, hm⟩ := osm_e hm
  refine zx_get (j := 7) C tC_0 k11 i12 ⟨by decide, Or.inl W_1_43⟩ dX0_put_60 (.ref a26) (rf_s h27) ?_
  refine zx_iload_n C dX0_put_63 0 rfl ?_
  refine zx_iconst (v := 0) C dX0_put_64 (by decide) ?_
  obtain ⟨n30, k28, i29, hm⟩ := ckR_e hm
  obtain ⟨h31, hm⟩ := ckI_e hm
  refine zx_zast C k28 i29 h31 dX0_put_65 ?_
  refine zx_aload_n C dX0_put_66 1 rfl ?_
  refine zx_dup C dX0_put_67 rfl ?_
  refine zx_get (j := 10) C tC_0 k11 i12 ⟨by decide, Or.inl W_1_46⟩ dX0_put_68 (.int (tI (sI (sI (sI (σ) (a14) ((y13).toNatClampNeg) (x1)) (a20) ((y13).toNatClampNeg) (x2)) (a26) ((y13).toNatClampNeg) (vp_nar .boolean ((0 : Int32)))) (x0) 10)) rfl ?_
  refine zx_iconst (v := 1) C dX0_put_71 (by decide) ?_
  refine zx_iadd C dX0_put_72 ?_
  refine zx_put (j := 10) (ρ := sI (sI (sI (sI (σ) (a14) ((y13).toNatClampNeg) (x1)) (a20) ((y13).toNatClampNeg) (x2)) (a26) ((y13).toNatClampNeg) (vp_nar .boolean ((0 : Int32)))) (x0) 10 ((tI (sI (sI (sI (σ) (a14) ((y13).toNatClampNeg) (x1)) (a20) ((y13).toNatClampNeg) (x2)) (a26) ((y13).toNatClampNeg) (vp_nar .boolean ((0 : Int32)))) (x0) 10) + (1))) C tC_0 k11 i12 ⟨by decide, Or.inl W_1_46⟩ rfl rfl rfl (sI_ok (fun _ => rfl)) dX0_put_73 ?_
  refine zx_mem (fun ρ32 hρ32 => ?_)
  replace hm := ltb_e hm hρ32
  have k33 : tk ρ32 (x0) = .inl 0 := by rw [hρ32]; exact k11
  have i34 : tIn b0 ρ32 (x0) := by rw [hρ32]; exact i12
  have k35 : tk ρ32 (a14) = .inr (0, n18) := by rw [hρ32]; exact k16
  have i36 : tIn b0 ρ32 (a14) := by rw [hρ32]; exact i17
  have k37 : tk ρ32 (a20) = .inr (0, n24) := by rw [hρ32]; exact k22
  have i38 : tIn b0 ρ32 (a20) := by rw [hρ32]; exact i23
  have k39 : tk ρ32 (a26) = .inr (2, n30) := by rw [hρ32]; exact k28
  have i40 : tIn b0 ρ32 (a26) := by rw [hρ32]; exact i29
  refine zx_aload_n C dX0_put_76 1 rfl ?_
  obtain ⟨a41, h42, hm⟩ := osm_e hm
  refine zx_get (j := 2) C tC_0 k33 i34 ⟨by decide, Or.inl W_1_38⟩ dX0_put_77 (.ref a41) (rf_s h42) ?_
  refine zx_iload_n C dX0_put_80 2 rfl ?_
  refine zx_dup2_11 C dX0_put_81 rfl rfl ?_
  obtain ⟨n45, k43, i44, hm⟩ := ckR_e hm
  obtain ⟨h46, hm⟩ := ckI_e hm
  refine zx_iald C k43 i44 h46 dX0_put_82 ?_
  refine zx_iconst (v := 1) C dX0_put_83 (by decide) ?_
  refine zx_iadd C dX0_put_84 ?_
  obtain ⟨h47, hm⟩ := ckI_e hm
  refine zx_iast C k43 i44 h47 dX0_put_85 ?_
  obtain ⟨rfl, rfl⟩ := ret_e hm
  exact zx_vret C rfl rfl rfl dX0_put_86
set_option maxRecDepth 100000 in
set_option maxHeartbeats 1000000 in
theorem c_X0_put {l : Launch} {D : va_G} {aC : Nat → ClassId} {b0 fu : Nat} {a0 : Nat} {p0 : Int32} {p1 : Int32} {σ τ : tM} {v : (Unit) ⊕ Unit} (hm : m_X0_put b0 fu a0 p0 p1 σ = some (v, τ)) : tMt l D aC b0 yX0_put (Cond.code yX0_put cX0_put 4 none) 7 110 [.ref (a0), .int (p0), .int (p1)] σ (rxV "java/lang/IllegalStateException" v) τ := by
  unfold m_X0_put at hm
  obtain ⟨hg, hm⟩ := grw_e hm
  refine tMt_of (n := 0) rfl (Nat.le_of_ble_eq_true rfl) hg ?_
  intro p e s m below meth c C htab hin
  refine zx_lv [0, 1, 2] [(0, .ref (a0)), (1, .int (p0)), (2, .int (p1))] rfl ?_
  refine zx_aload_n C dX0_put_0 0 rfl ?_
  obtain ⟨k1, i2, hm⟩ := ckO_e hm
  rcases clx_e hm with ⟨v3, ρ4, h5, hm⟩ | ⟨ρ4, h5, hm⟩
  · refine zx_callV (σ := σ) C [] tC_0 k1 i2 Y_X0_act W_3_199 W_3_201 Wp_12 (c_X0_act h5) (by decide) (by decide) rfl (Nat.le_of_ble_eq_true rfl) dX0_put_1 rfl ?_
    refine zx_iload_n C dX0_put_4 1 rfl ?_
    refine zx_if_lt C 16 dX0_put_5 (by decide) (fun c6 => ?_) (fun c6 => ?_)
    · replace hm := ip_e hm c6
      exact zx_lv [] [] rfl (j_X0_put_16 C htab hin    hm)
    · replace hm := in_e hm c6
      refine zx_iload_n C dX0_put_8 1 rfl ?_
      refine zx_aload_n C dX0_put_9 0 rfl ?_
      obtain ⟨k7, i8, hm⟩ := ckO_e hm
      refine zx_get (j := 8) C tC_0 k7 i8 ⟨by decide, Or.inl W_1_44⟩ dX0_put_10 (.int (tI (ρ4) (a0) 8)) rfl ?_
      refine zx_icmp_lt C 17 dX0_put_13 (by decide) (fun c9 => ?_) (fun c9 => ?_)
      · replace hm := ip_e hm c9
        refine zx_aload_n C dX0_put_17 0 rfl ?_
        refine zx_get (j := 10) C tC_0 k7 i8 ⟨by decide, Or.inl W_1_46⟩ dX0_put_18 (.int (tI (ρ4) (a0) 10)) rfl ?_
        refine zx_sipush (v := 256) C dX0_put_21 (by decide) ?_
        refine zx_icmp_lt C 31 dX0_put_24 (by decide) (fun c10 => ?_) (fun c10 => ?_)
        · replace hm := ip_e hm c10
          exact zx_lv [0, 1, 2] [(0, .ref (a0)), (1, .int (p0)), (2, .int (p1))] rfl (j_X0_put_31 C htab hin    hm)
        · replace hm := in_e hm c10
          refine zx_aload_n C dX0_put_27 0 rfl ?_
          obtain ⟨v49, ρ50, h51, hm⟩ := cll_e hm
          refine zx_callV (σ := ρ4) C [] tC_0 k7 i8 Y_X0_keepOldest W_3_208 W_3_210 Wp_13 (c_X0_keepOldest h51) (by decide) (by decide) rfl (Nat.le_of_ble_eq_true rfl) dX0_put_28 rfl ?_
          exact zx_lv [0, 1, 2] [(0, .ref (a0)), (1, .int (p0)), (2, .int (p1))] rfl (j_X0_put_31 C htab hin    hm)
      · replace hm := in_e hm c9
        exact zx_lv [] [] rfl (j_X0_put_16 C htab hin    hm)
  · cases hm
    exact zx_outV (σ := σ) C htab [] tC_0 k1 i2 Y_X0_act W_3_199 W_3_201 Wp_12 (c_X0_act h5) rfl (by decide) (by decide) rfl (Nat.le_of_ble_eq_true rfl) dX0_put_1 rfl
abbrev cX0_flushCache : ByteArray := prog_2_method_8_code
def yX0_flushCache : MethodName := ⟨"SyncTree$Disk", "flushCache", "()V"⟩
theorem Y_X0_flushCache : tY yX0_flushCache cX0_flushCache 2 none 0 := ⟨W_3_198, W_1_2, ⟨by decide +kernel, by decide +kernel⟩, by decide +kernel⟩
theorem dX0_flushCache_0 : decode cX0_flushCache 0 = .ok (.aload_n 0, 1) := by decide +kernel
theorem dX0_flushCache_1 : decode cX0_flushCache 1 = .ok (.invokevirtual 84, 3) := by decide +kernel
theorem dX0_flushCache_4 : decode cX0_flushCache 4 = .ok (.aload_n 0, 1) := by decide +kernel
theorem dX0_flushCache_5 : decode cX0_flushCache 5 = .ok (.getfield 56, 3) := by decide +kernel
theorem dX0_flushCache_8 : decode cX0_flushCache 8 = .ok (.istore_n 1, 1) := by decide +kernel
theorem dX0_flushCache_9 : decode cX0_flushCache 9 = .ok (.iload_n 1, 1) := by decide +kernel
theorem dX0_flushCache_10 : decode cX0_flushCache 10 = .ok (.ifCond .le 13, 3) := by decide +kernel
theorem dX0_flushCache_13 : decode cX0_flushCache 13 = .ok (.aload_n 0, 1) := by decide +kernel
theorem dX0_flushCache_14 : decode cX0_flushCache 14 = .ok (.invokevirtual 87, 3) := by decide +kernel
theorem dX0_flushCache_17 : decode cX0_flushCache 17 = .ok (.iinc 1 (-1), 3) := by decide +kernel
theorem dX0_flushCache_20 : decode cX0_flushCache 20 = .ok (.goto (-11), 3) := by decide +kernel
theorem dX0_flushCache_23 : decode cX0_flushCache 23 = .ok (.aload_n 0, 1) := by decide +kernel
theorem dX0_flushCache_24 : decode cX0_flushCache 24 = .ok (.dup, 1) := by decide +kernel
theorem dX0_flushCache_25 : decode cX0_flushCache 25 = .ok (.getfield 62, 3) := by decide +kernel
theorem dX0_flushCache_28 : decode cX0_flushCache 28 = .ok (.iconst 1, 1) := by decide +kernel
theorem dX0_flushCache_29 : decode cX0_flushCache 29 = .ok (.iadd, 1) := by decide +kernel
theorem dX0_flushCache_30 : decode cX0_flushCache 30 = .ok (.putfield 62, 3) := by decide +kernel
theorem dX0_flushCache_33 : decode cX0_flushCache 33 = .ok (.return_, 1) := by decide +kernel
set_option maxRecDepth 100000 in
set_option maxHeartbeats 1000000 in
theorem l_X0_flushCache_9 {p : Program} {l : Launch} {e : Env} {s : State} {m : MethodId} {args : Array Value} {below : List Frame} {meth : Method} {c : Code} {D : va_G} {aC : Nat → ClassId} {b0 fu : Nat} {σ0 τ : tM} {v : (Unit) ⊕ Unit}  (C : tCx p l s m args meth c yX0_flushCache.cls cX0_flushCache 2 none D aC b0 σ0) (htab : ∀ x ∈ c.exceptionTable.toList, False) (hin : meth.name = yX0_flushCache.name)  : ∀ (n : Nat) (x0 : Nat) (x1 : Int32) (σ : tM), L_X0_flushCache_9 b0 fu  n x0 x1 σ = some (v, τ) → tX p l e s m args below meth c 2 7 110 D aC b0 σ0 (rxV "java/lang/IllegalStateException" v) τ 9 [(0, .ref (x0)), (1, .int (x1))] [] σ := by
  intro n
  induction n with
  | zero => intro x0 x1 σ hm; unfold L_X0_flushCache_9 at hm; cases hm
  | succ n ih =>
    intro x0 x1 σ hm
    unfold L_X0_flushCache_9 at hm
    obtain ⟨rc9, hrc⟩ : ∃ z, z = L_X0_flushCache_9 b0 fu  n := ⟨_, rfl⟩
    replace hm := ltb_e hm hrc
    rw [← hrc] at ih
    have hrc9 := ih
    clear ih hrc
    refine zx_iload_n C dX0_flushCache_9 1 rfl ?_
    refine zx_if_le C 23 dX0_flushCache_10 (by decide) (fun c9 => ?_) (fun c9 => ?_)
    · replace hm := ip_e hm c9
      refine zx_aload_n C dX0_flushCache_23 0 rfl ?_
      refine zx_dup C dX0_flushCache_24 rfl ?_
      obtain ⟨k10, i11, hm⟩ := ckO_e hm
      refine zx_get (j := 12) C tC_0 k10 i11 ⟨by decide, Or.inl W_1_49⟩ dX0_flushCache_25 (.int (tI (σ) (x0) 12)) rfl ?_
      refine zx_iconst (v := 1) C dX0_flushCache_28 (by decide) ?_
      refine zx_iadd C dX0_flushCache_29 ?_
      refine zx_put (j := 12) (ρ := sI (σ) (x0) 12 ((tI (σ) (x0) 12) + (1))) C tC_0 k10 i11 ⟨by decide, Or.inl W_1_49⟩ rfl rfl rfl (sI_ok (fun _ => rfl)) dX0_flushCache_30 ?_
      obtain ⟨rfl, rfl⟩ := ret_e hm
      exact zx_vret C rfl rfl rfl dX0_flushCache_33
    · replace hm := in_e hm c9
      refine zx_aload_n C dX0_flushCache_13 0 rfl ?_
      obtain ⟨k12, i13, hm⟩ := ckO_e hm
      obtain ⟨v14, ρ15, h16, hm⟩ := cll_e hm
      refine zx_callV (σ := σ) C [] tC_0 k12 i13 Y_X0_keepOldest W_3_208 W_3_210 Wp_13 (c_X0_keepOldest h16) (by decide) (by decide) rfl (Nat.le_of_ble_eq_true rfl) dX0_flushCache_14 rfl ?_
      obtain ⟨y17, hy17⟩ : ∃ z : Int32, z = (x1) + Int32.ofInt (-1) := ⟨_, rfl⟩
      replace hm := ltb_e hm hy17
      refine zx_iinc C [(1, .int (y17)), (0, .ref (x0))] dX0_flushCache_17 1 rfl hy17.symm (by decide) rfl ?_
      refine zx_goto C 9 dX0_flushCache_20 (by decide) ?_
      exact zx_lv [1, 0] [(0, .ref (x0)), (1, .int (y17))] rfl (hrc9 _ _ _ hm)
set_option maxRecDepth 100000 in
set_option maxHeartbeats 1000000 in
theorem c_X0_flushCache {l : Launch} {D : va_G} {aC : Nat → ClassId} {b0 fu : Nat} {a0 : Nat} {σ τ : tM} {v : (Unit) ⊕ Unit} (hm : m_X0_flushCache b0 fu a0 σ = some (v, τ)) : tMt l D aC b0 yX0_flushCache (Cond.code yX0_flushCache cX0_flushCache 2 none) 7 110 [.ref (a0)] σ (rxV "java/lang/IllegalStateException" v) τ := by
  unfold m_X0_flushCache at hm
  obtain ⟨hg, hm⟩ := grw_e hm
  refine tMt_of (n := 0) rfl (Nat.le_of_ble_eq_true rfl) hg ?_
  intro p e s m below meth c C htab hin
  refine zx_lv [0] [(0, .ref (a0))] rfl ?_
  refine zx_aload_n C dX0_flushCache_0 0 rfl ?_
  obtain ⟨k1, i2, hm⟩ := ckO_e hm
  rcases clx_e hm with ⟨v3, ρ4, h5, hm⟩ | ⟨ρ4, h5, hm⟩
  · refine zx_callV (σ := σ) C [] tC_0 k1 i2 Y_X0_act W_3_199 W_3_201 Wp_12 (c_X0_act h5) (by decide) (by decide) rfl (Nat.le_of_ble_eq_true rfl) dX0_flushCache_1 rfl ?_
    refine zx_aload_n C dX0_flushCache_4 0 rfl ?_
    obtain ⟨k6, i7, hm⟩ := ckO_e hm
    refine zx_get (j := 10) C tC_0 k6 i7 ⟨by decide, Or.inl W_1_46⟩ dX0_flushCache_5 (.int (tI (ρ4) (a0) 10)) rfl ?_
    refine zx_topi (fun y8 hy8 => ?_)
    replace hm := ltb_e hm hy8
    refine zx_istore_n C [(1, .int (y8)), (0, .ref (a0))] dX0_flushCache_8 rfl (by decide) rfl ?_
    exact zx_lv [1, 0] [(0, .ref (a0)), (1, .int (y8))] rfl (l_X0_flushCache_9 C htab hin  _ _ _ _ hm)
  · cases hm
    exact zx_outV (σ := σ) C htab [] tC_0 k1 i2 Y_X0_act W_3_199 W_3_201 Wp_12 (c_X0_act h5) rfl (by decide) (by decide) rfl (Nat.le_of_ble_eq_true rfl) dX0_flushCache_1 rfl
abbrev cX1_restart : ByteArray := prog_3_method_4_code
def yX1_restart : MethodName := ⟨"SyncTree$Journal", "restart", "(I)V"⟩
theorem Y_X1_restart : tY yX1_restart cX1_restart 2 none 1 := ⟨W_2_171, W_1_5, ⟨by decide +kernel, by decide +kernel⟩, by decide +kernel⟩
theorem dX1_restart_0 : decode cX1_restart 0 = .ok (.aload_n 0, 1) := by decide +kernel
theorem dX1_restart_1 : decode cX1_restart 1 = .ok (.iload_n 1, 1) := by decide +kernel
theorem dX1_restart_2 : decode cX1_restart 2 = .ok (.putfield 66, 3) := by decide +kernel
theorem dX1_restart_5 : decode cX1_restart 5 = .ok (.aload_n 0, 1) := by decide +kernel
theorem dX1_restart_6 : decode cX1_restart 6 = .ok (.iload_n 1, 1) := by decide +kernel
theorem dX1_restart_7 : decode cX1_restart 7 = .ok (.putfield 69, 3) := by decide +kernel
theorem dX1_restart_10 : decode cX1_restart 10 = .ok (.aload_n 0, 1) := by decide +kernel
theorem dX1_restart_11 : decode cX1_restart 11 = .ok (.iload_n 1, 1) := by decide +kernel
theorem dX1_restart_12 : decode cX1_restart 12 = .ok (.putfield 72, 3) := by decide +kernel
theorem dX1_restart_15 : decode cX1_restart 15 = .ok (.aload_n 0, 1) := by decide +kernel
theorem dX1_restart_16 : decode cX1_restart 16 = .ok (.iload_n 1, 1) := by decide +kernel
theorem dX1_restart_17 : decode cX1_restart 17 = .ok (.putfield 75, 3) := by decide +kernel
theorem dX1_restart_20 : decode cX1_restart 20 = .ok (.aload_n 0, 1) := by decide +kernel
theorem dX1_restart_21 : decode cX1_restart 21 = .ok (.iload_n 1, 1) := by decide +kernel
theorem dX1_restart_22 : decode cX1_restart 22 = .ok (.putfield 78, 3) := by decide +kernel
theorem dX1_restart_25 : decode cX1_restart 25 = .ok (.aload_n 0, 1) := by decide +kernel
theorem dX1_restart_26 : decode cX1_restart 26 = .ok (.iconst 0, 1) := by decide +kernel
theorem dX1_restart_27 : decode cX1_restart 27 = .ok (.putfield 81, 3) := by decide +kernel
theorem dX1_restart_30 : decode cX1_restart 30 = .ok (.aload_n 0, 1) := by decide +kernel
theorem dX1_restart_31 : decode cX1_restart 31 = .ok (.aload_n 0, 1) := by decide +kernel
theorem dX1_restart_32 : decode cX1_restart 32 = .ok (.getfield 49, 3) := by decide +kernel
theorem dX1_restart_35 : decode cX1_restart 35 = .ok (.putfield 84, 3) := by decide +kernel
theorem dX1_restart_38 : decode cX1_restart 38 = .ok (.aload_n 0, 1) := by decide +kernel
theorem dX1_restart_39 : decode cX1_restart 39 = .ok (.getfield 25, 3) := by decide +kernel
theorem dX1_restart_42 : decode cX1_restart 42 = .ok (.iload_n 1, 1) := by decide +kernel
theorem dX1_restart_43 : decode cX1_restart 43 = .ok (.iconst 1, 1) := by decide +kernel
theorem dX1_restart_44 : decode cX1_restart 44 = .ok (.iadd, 1) := by decide +kernel
theorem dX1_restart_45 : decode cX1_restart 45 = .ok (.invokevirtual 87, 3) := by decide +kernel
theorem dX1_restart_48 : decode cX1_restart 48 = .ok (.aload_n 0, 1) := by decide +kernel
theorem dX1_restart_49 : decode cX1_restart 49 = .ok (.getfield 29, 3) := by decide +kernel
theorem dX1_restart_52 : decode cX1_restart 52 = .ok (.invokevirtual 90, 3) := by decide +kernel
theorem dX1_restart_55 : decode cX1_restart 55 = .ok (.return_, 1) := by decide +kernel
set_option maxRecDepth 100000 in
set_option maxHeartbeats 1000000 in
theorem c_X1_restart {l : Launch} {D : va_G} {aC : Nat → ClassId} {b0 fu : Nat} {a0 : Nat} {p0 : Int32} {σ τ : tM} {v : Unit} (hm : m_X1_restart b0 fu a0 p0 σ = some (v, τ)) : tMt l D aC b0 yX1_restart (Cond.code yX1_restart cX1_restart 2 none) 2 43 [.ref (a0), .int (p0)] σ (.inl none) τ := by
  unfold m_X1_restart at hm
  obtain ⟨hg, hm⟩ := grw_e hm
  refine tMt_of (n := 0) rfl (Nat.le_of_ble_eq_true rfl) hg ?_
  intro p e s m below meth c C htab hin
  refine zx_lv [0, 1] [(0, .ref (a0)), (1, .int (p0))] rfl ?_
  refine zx_aload_n C dX1_restart_0 0 rfl ?_
  refine zx_iload_n C dX1_restart_1 1 rfl ?_
  obtain ⟨k1, i2, hm⟩ := ckO_e hm
  refine zx_put (j := 12) (ρ := sI (σ) (a0) 12 (p0)) C tC_1 k1 i2 ⟨by decide, Or.inl W_1_192⟩ rfl rfl rfl (sI_ok (fun _ => rfl)) dX1_restart_2 ?_
  refine zx_aload_n C dX1_restart_5 0 rfl ?_
  refine zx_iload_n C dX1_restart_6 1 rfl ?_
  refine zx_put (j := 13) (ρ := sI (sI (σ) (a0) 12 (p0)) (a0) 13 (p0)) C tC_1 k1 i2 ⟨by decide, Or.inl W_1_193⟩ rfl rfl rfl (sI_ok (fun _ => rfl)) dX1_restart_7 ?_
  refine zx_aload_n C dX1_restart_10 0 rfl ?_
  refine zx_iload_n C dX1_restart_11 1 rfl ?_
  refine zx_put (j := 14) (ρ := sI (sI (sI (σ) (a0) 12 (p0)) (a0) 13 (p0)) (a0) 14 (p0)) C tC_1 k1 i2 ⟨by decide, Or.inl W_1_194⟩ rfl rfl rfl (sI_ok (fun _ => rfl)) dX1_restart_12 ?_
  refine zx_aload_n C dX1_restart_15 0 rfl ?_
  refine zx_iload_n C dX1_restart_16 1 rfl ?_
  refine zx_put (j := 15) (ρ := sI (sI (sI (sI (σ) (a0) 12 (p0)) (a0) 13 (p0)) (a0) 14 (p0)) (a0) 15 (p0)) C tC_1 k1 i2 ⟨by decide, Or.inl W_1_195⟩ rfl rfl rfl (sI_ok (fun _ => rfl)) dX1_restart_17 ?_
  refine zx_aload_n C dX1_restart_20 0 rfl ?_
  refine zx_iload_n C dX1_restart_21 1 rfl ?_
  refine zx_put (j := 16) (ρ := sI (sI (sI (sI (sI (σ) (a0) 12 (p0)) (a0) 13 (p0)) (a0) 14 (p0)) (a0) 15 (p0)) (a0) 16 (p0)) C tC_1 k1 i2 ⟨by decide, Or.inl W_1_196⟩ rfl rfl rfl (sI_ok (fun _ => rfl)) dX1_restart_22 ?_
  refine zx_aload_n C dX1_restart_25 0 rfl ?_
  refine zx_iconst (v := 0) C dX1_restart_26 (by decide) ?_
  refine zx_put (j := 9) (ρ := sI (sI (sI (sI (sI (sI (σ) (a0) 12 (p0)) (a0) 13 (p0)) (a0) 14 (p0)) (a0) 15 (p0)) (a0) 16 (p0)) (a0) 9 (0)) C tC_1 k1 i2 ⟨by decide, Or.inl W_1_189⟩ rfl rfl rfl (sI_ok (fun _ => rfl)) dX1_restart_27 ?_
  refine zx_aload_n C dX1_restart_30 0 rfl ?_
  refine zx_aload_n C dX1_restart_31 0 rfl ?_
  refine zx_get (j := 11) C tC_1 k1 i2 ⟨by decide, Or.inl W_1_191⟩ dX1_restart_32 (.int (tI (sI (sI (sI (sI (sI (sI (σ) (a0) 12 (p0)) (a0) 13 (p0)) (a0) 14 (p0)) (a0) 15 (p0)) (a0) 16 (p0)) (a0) 9 (0)) (a0) 11)) rfl ?_
  refine zx_put (j := 10) (ρ := sI (sI (sI (sI (sI (sI (sI (σ) (a0) 12 (p0)) (a0) 13 (p0)) (a0) 14 (p0)) (a0) 15 (p0)) (a0) 16 (p0)) (a0) 9 (0)) (a0) 10 (tI (sI (sI (sI (sI (sI (sI (σ) (a0) 12 (p0)) (a0) 13 (p0)) (a0) 14 (p0)) (a0) 15 (p0)) (a0) 16 (p0)) (a0) 9 (0)) (a0) 11)) C tC_1 k1 i2 ⟨by decide, Or.inl W_1_190⟩ rfl rfl rfl (sI_ok (fun _ => rfl)) dX1_restart_35 ?_
  refine zx_aload_n C dX1_restart_38 0 rfl ?_
  obtain ⟨a3, h4, hm⟩ := osm_e hm
  refine zx_get (j := 1) C tC_1 k1 i2 ⟨by decide, Or.inl W_1_181⟩ dX1_restart_39 (.ref a3) (rf_s h4) ?_
  refine zx_iload_n C dX1_restart_42 1 rfl ?_
  refine zx_iconst (v := 1) C dX1_restart_43 (by decide) ?_
  refine zx_iadd C dX1_restart_44 ?_
  obtain ⟨k5, i6, hm⟩ := ckO_e hm
  obtain ⟨v7, ρ8, h9, hm⟩ := cll_e hm
  refine zx_callV (σ := sI (sI (sI (sI (sI (sI (sI (σ) (a0) 12 (p0)) (a0) 13 (p0)) (a0) 14 (p0)) (a0) 15 (p0)) (a0) 16 (p0)) (a0) 9 (0)) (a0) 10 (tI (sI (sI (sI (sI (sI (sI (σ) (a0) 12 (p0)) (a0) 13 (p0)) (a0) 14 (p0)) (a0) 15 (p0)) (a0) 16 (p0)) (a0) 9 (0)) (a0) 11)) C [.int ((p0) + (1))] tC_5 k5 i6 Y_X5_emptyGroup W_2_172 W_2_124 W_2_125 (c_X5_emptyGroup h9) (by decide) (by decide) rfl (Nat.le_of_ble_eq_true rfl) dX1_restart_45 rfl ?_
  refine zx_aload_n C dX1_restart_48 0 rfl ?_
  obtain ⟨k10, i11, hm⟩ := ckO_e hm
  obtain ⟨a12, h13, hm⟩ := osm_e hm
  refine zx_get (j := 2) C tC_1 k10 i11 ⟨by decide, Or.inl W_1_182⟩ dX1_restart_49 (.ref a12) (rf_s h13) ?_
  obtain ⟨k14, i15, hm⟩ := ckO_e hm
  obtain ⟨v16, ρ17, h18, hm⟩ := cll_e hm
  refine zx_callV (σ := ρ8) C [] tC_8 k14 i15 Y_X8_forgetChanges W_2_173 W_2_174 W_2_175 (c_X8_forgetChanges h18) (by decide) (by decide) rfl (Nat.le_of_ble_eq_true rfl) dX1_restart_52 rfl ?_
  obtain ⟨rfl, rfl⟩ := ret_e hm
  exact zx_vret C rfl rfl rfl dX1_restart_55
abbrev cX1_append : ByteArray := prog_3_method_12_code
def yX1_append : MethodName := ⟨"SyncTree$Journal", "append", "(I)V"⟩
theorem Y_X1_append : tY yX1_append cX1_append 3 none 1 := ⟨W_4_12, W_1_5, ⟨by decide +kernel, by decide +kernel⟩, by decide +kernel⟩
theorem dX1_append_0 : decode cX1_append 0 = .ok (.aload_n 0, 1) := by decide +kernel
theorem dX1_append_1 : decode cX1_append 1 = .ok (.dup, 1) := by decide +kernel
theorem dX1_append_2 : decode cX1_append 2 = .ok (.getfield 66, 3) := by decide +kernel
theorem dX1_append_5 : decode cX1_append 5 = .ok (.iconst 1, 1) := by decide +kernel
theorem dX1_append_6 : decode cX1_append 6 = .ok (.iadd, 1) := by decide +kernel
theorem dX1_append_7 : decode cX1_append 7 = .ok (.putfield 66, 3) := by decide +kernel
theorem dX1_append_10 : decode cX1_append 10 = .ok (.new 133, 3) := by decide +kernel
theorem dX1_append_13 : decode cX1_append 13 = .ok (.dup, 1) := by decide +kernel
theorem dX1_append_14 : decode cX1_append 14 = .ok (.aload_n 0, 1) := by decide +kernel
theorem dX1_append_15 : decode cX1_append 15 = .ok (.getfield 66, 3) := by decide +kernel
theorem dX1_append_18 : decode cX1_append 18 = .ok (.aload_n 0, 1) := by decide +kernel
theorem dX1_append_19 : decode cX1_append 19 = .ok (.getfield 52, 3) := by decide +kernel
theorem dX1_append_22 : decode cX1_append 22 = .ok (.aload_n 0, 1) := by decide +kernel
theorem dX1_append_23 : decode cX1_append 23 = .ok (.getfield 84, 3) := by decide +kernel
theorem dX1_append_26 : decode cX1_append 26 = .ok (.iload_n 1, 1) := by decide +kernel
theorem dX1_append_27 : decode cX1_append 27 = .ok (.aload_n 0, 1) := by decide +kernel
theorem dX1_append_28 : decode cX1_append 28 = .ok (.getfield 25, 3) := by decide +kernel
theorem dX1_append_31 : decode cX1_append 31 = .ok (.getfield 135, 3) := by decide +kernel
theorem dX1_append_34 : decode cX1_append 34 = .ok (.aload_n 0, 1) := by decide +kernel
theorem dX1_append_35 : decode cX1_append 35 = .ok (.getfield 25, 3) := by decide +kernel
theorem dX1_append_38 : decode cX1_append 38 = .ok (.getfield 138, 3) := by decide +kernel
theorem dX1_append_41 : decode cX1_append 41 = .ok (.invokespecial 141, 3) := by decide +kernel
theorem dX1_append_44 : decode cX1_append 44 = .ok (.astore_n 2, 1) := by decide +kernel
theorem dX1_append_45 : decode cX1_append 45 = .ok (.aload_n 0, 1) := by decide +kernel
theorem dX1_append_46 : decode cX1_append 46 = .ok (.aload_n 2, 1) := by decide +kernel
theorem dX1_append_47 : decode cX1_append 47 = .ok (.invokevirtual 144, 3) := by decide +kernel
theorem dX1_append_50 : decode cX1_append 50 = .ok (.aload_n 0, 1) := by decide +kernel
theorem dX1_append_51 : decode cX1_append 51 = .ok (.getfield 148, 3) := by decide +kernel
theorem dX1_append_54 : decode cX1_append 54 = .ok (.ifnonnull 11, 3) := by decide +kernel
theorem dX1_append_57 : decode cX1_append 57 = .ok (.aload_n 0, 1) := by decide +kernel
theorem dX1_append_58 : decode cX1_append 58 = .ok (.aload_n 2, 1) := by decide +kernel
theorem dX1_append_59 : decode cX1_append 59 = .ok (.putfield 152, 3) := by decide +kernel
theorem dX1_append_62 : decode cX1_append 62 = .ok (.goto 11, 3) := by decide +kernel
theorem dX1_append_65 : decode cX1_append 65 = .ok (.aload_n 0, 1) := by decide +kernel
theorem dX1_append_66 : decode cX1_append 66 = .ok (.getfield 148, 3) := by decide +kernel
theorem dX1_append_69 : decode cX1_append 69 = .ok (.aload_n 2, 1) := by decide +kernel
theorem dX1_append_70 : decode cX1_append 70 = .ok (.putfield 155, 3) := by decide +kernel
theorem dX1_append_73 : decode cX1_append 73 = .ok (.aload_n 0, 1) := by decide +kernel
theorem dX1_append_74 : decode cX1_append 74 = .ok (.aload_n 2, 1) := by decide +kernel
theorem dX1_append_75 : decode cX1_append 75 = .ok (.putfield 148, 3) := by decide +kernel
theorem dX1_append_78 : decode cX1_append 78 = .ok (.aload_n 0, 1) := by decide +kernel
theorem dX1_append_79 : decode cX1_append 79 = .ok (.dup, 1) := by decide +kernel
theorem dX1_append_80 : decode cX1_append 80 = .ok (.getfield 81, 3) := by decide +kernel
theorem dX1_append_83 : decode cX1_append 83 = .ok (.iload_n 1, 1) := by decide +kernel
theorem dX1_append_84 : decode cX1_append 84 = .ok (.iadd, 1) := by decide +kernel
theorem dX1_append_85 : decode cX1_append 85 = .ok (.putfield 81, 3) := by decide +kernel
theorem dX1_append_88 : decode cX1_append 88 = .ok (.aload_n 0, 1) := by decide +kernel
theorem dX1_append_89 : decode cX1_append 89 = .ok (.aload_n 0, 1) := by decide +kernel
theorem dX1_append_90 : decode cX1_append 90 = .ok (.aload_n 0, 1) := by decide +kernel
theorem dX1_append_91 : decode cX1_append 91 = .ok (.getfield 84, 3) := by decide +kernel
theorem dX1_append_94 : decode cX1_append 94 = .ok (.iload_n 1, 1) := by decide +kernel
theorem dX1_append_95 : decode cX1_append 95 = .ok (.iadd, 1) := by decide +kernel
theorem dX1_append_96 : decode cX1_append 96 = .ok (.invokevirtual 122, 3) := by decide +kernel
theorem dX1_append_99 : decode cX1_append 99 = .ok (.putfield 84, 3) := by decide +kernel
theorem dX1_append_102 : decode cX1_append 102 = .ok (.aload_n 0, 1) := by decide +kernel
theorem dX1_append_103 : decode cX1_append 103 = .ok (.getfield 25, 3) := by decide +kernel
theorem dX1_append_106 : decode cX1_append 106 = .ok (.aload_n 0, 1) := by decide +kernel
theorem dX1_append_107 : decode cX1_append 107 = .ok (.getfield 66, 3) := by decide +kernel
theorem dX1_append_110 : decode cX1_append 110 = .ok (.iconst 1, 1) := by decide +kernel
theorem dX1_append_111 : decode cX1_append 111 = .ok (.iadd, 1) := by decide +kernel
theorem dX1_append_112 : decode cX1_append 112 = .ok (.invokevirtual 87, 3) := by decide +kernel
theorem dX1_append_115 : decode cX1_append 115 = .ok (.aload_n 0, 1) := by decide +kernel
theorem dX1_append_116 : decode cX1_append 116 = .ok (.getfield 29, 3) := by decide +kernel
theorem dX1_append_119 : decode cX1_append 119 = .ok (.invokevirtual 90, 3) := by decide +kernel
theorem dX1_append_122 : decode cX1_append 122 = .ok (.return_, 1) := by decide +kernel
set_option maxRecDepth 100000 in
set_option maxHeartbeats 1000000 in
theorem j_X1_append_73 {p : Program} {l : Launch} {e : Env} {s : State} {m : MethodId} {args : Array Value} {below : List Frame} {meth : Method} {c : Code} {D : va_G} {aC : Nat → ClassId} {b0 fu : Nat} {σ0 τ : tM} {v : Unit}  (C : tCx p l s m args meth c yX1_append.cls cX1_append 3 none D aC b0 σ0) (htab : ∀ x ∈ c.exceptionTable.toList, False) (hin : meth.name = yX1_append.name)  {x0 : Nat} {x1 : Int32} {x2 : Option Nat} {σ : tM} (hm : J_X1_append_73 b0 fu  x0 x1 x2 σ = some (v, τ)) : tX p l e s m args below meth c 3 4 86 D aC b0 σ0 (.inl none) τ 73 [(0, .ref (x0)), (1, .int (x1)), (2, va_rf (x2))] [] σ := by
  unfold J_X1_append_73 at hm
  refine zx_aload_n C dX1_append_73 0 rfl ?_
  rcases omt_e hm with ⟨o32, h33, hm⟩ | ⟨h33, hm⟩
  · refine zx_lv [0, 1, 2] [(0, .ref (x0)), (1, .int (x1)), (2, .ref (o32))] (by rw [h33]; rfl) ?_
    refine zx_aload_n C dX1_append_74 2 rfl ?_
    obtain ⟨k34, i35, hm⟩ := ckO_e hm
    refine zx_put (j := 6) (ρ := sA (σ) (x0) 6 (some (o32))) C tC_1 k34 i35 ⟨by decide, Or.inl W_1_186⟩ rfl rfl rfl (sA_ok (fun _ => rfl)) dX1_append_75 ?_
    refine zx_aload_n C dX1_append_78 0 rfl ?_
    refine zx_dup C dX1_append_79 rfl ?_
    refine zx_get (j := 9) C tC_1 k34 i35 ⟨by decide, Or.inl W_1_189⟩ dX1_append_80 (.int (tI (sA (σ) (x0) 6 (some (o32))) (x0) 9)) rfl ?_
    refine zx_iload_n C dX1_append_83 1 rfl ?_
    refine zx_iadd C dX1_append_84 ?_
    refine zx_put (j := 9) (ρ := sI (sA (σ) (x0) 6 (some (o32))) (x0) 9 ((tI (sA (σ) (x0) 6 (some (o32))) (x0) 9) + (x1))) C tC_1 k34 i35 ⟨by decide, Or.inl W_1_189⟩ rfl rfl rfl (sI_ok (fun _ => rfl)) dX1_append_85 ?_
    refine zx_aload_n C dX1_append_88 0 rfl ?_
    refine zx_aload_n C dX1_append_89 0 rfl ?_
    refine zx_aload_n C dX1_append_90 0 rfl ?_
    refine zx_get (j := 10) C tC_1 k34 i35 ⟨by decide, Or.inl W_1_190⟩ dX1_append_91 (.int (tI (sI (sA (σ) (x0) 6 (some (o32))) (x0) 9 ((tI (sA (σ) (x0) 6 (some (o32))) (x0) 9) + (x1))) (x0) 10)) rfl ?_
    refine zx_iload_n C dX1_append_94 1 rfl ?_
    refine zx_iadd C dX1_append_95 ?_
    obtain ⟨v36, ρ37, h38, hm⟩ := cll_e hm
    refine zx_callV (σ := sI (sA (σ) (x0) 6 (some (o32))) (x0) 9 ((tI (sA (σ) (x0) 6 (some (o32))) (x0) 9) + (x1))) C [.int ((tI (sI (sA (σ) (x0) 6 (some (o32))) (x0) 9 ((tI (sA (σ) (x0) 6 (some (o32))) (x0) 9) + (x1))) (x0) 10) + (x1))] tC_1 k34 i35 Y_X1_wrap W_3_224 W_3_226 Wp_16 (c_X1_wrap h38) (by decide) (by decide) rfl (Nat.le_of_ble_eq_true rfl) dX1_append_96 rfl ?_
    obtain ⟨k39, i40, hm⟩ := ckO_e hm
    refine zx_put (j := 10) (ρ := sI (ρ37) (x0) 10 (v36)) C tC_1 k39 i40 ⟨by decide, Or.inl W_1_190⟩ rfl rfl rfl (sI_ok (fun _ => rfl)) dX1_append_99 ?_
    refine zx_aload_n C dX1_append_102 0 rfl ?_
    obtain ⟨a41, h42, hm⟩ := osm_e hm
    refine zx_get (j := 1) C tC_1 k39 i40 ⟨by decide, Or.inl W_1_181⟩ dX1_append_103 (.ref a41) (rf_s h42) ?_
    refine zx_aload_n C dX1_append_106 0 rfl ?_
    refine zx_get (j := 12) C tC_1 k39 i40 ⟨by decide, Or.inl W_1_192⟩ dX1_append_107 (.int (tI (sI (ρ37) (x0) 10 (v36)) (x0) 12)) rfl ?_
    refine zx_iconst (v := 1) C dX1_append_110 (by decide) ?_
    refine zx_iadd C dX1_append_111 ?_
    obtain ⟨k43, i44, hm⟩ := ckO_e hm
    obtain ⟨v45, ρ46, h47, hm⟩ := cll_e hm
    refine zx_callV (σ := sI (ρ37) (x0) 10 (v36)) C [.int ((tI (sI (ρ37) (x0) 10 (v36)) (x0) 12) + (1))] tC_5 k43 i44 Y_X5_emptyGroup W_2_172 W_2_124 W_2_125 (c_X5_emptyGroup h47) (by decide) (by decide) rfl (Nat.le_of_ble_eq_true rfl) dX1_append_112 rfl ?_
    refine zx_aload_n C dX1_append_115 0 rfl ?_
    obtain ⟨k48, i49, hm⟩ := ckO_e hm
    obtain ⟨a50, h51, hm⟩ := osm_e hm
    refine zx_get (j := 2) C tC_1 k48 i49 ⟨by decide, Or.inl W_1_182⟩ dX1_append_116 (.ref a50) (rf_s h51) ?_
    obtain ⟨k52, i53, hm⟩ := ckO_e hm
    obtain ⟨v54, ρ55, h56, hm⟩ := cll_e hm
    refine zx_callV (σ := ρ46) C [] tC_8 k52 i53 Y_X8_forgetChanges W_2_173 W_2_174 W_2_175 (c_X8_forgetChanges h56) (by decide) (by decide) rfl (Nat.le_of_ble_eq_true rfl) dX1_append_119 rfl ?_
    obtain ⟨rfl, rfl⟩ := ret_e hm
    exact zx_vret C rfl rfl rfl dX1_append_122
  · refine zx_lv [0, 1, 2] [(0, .ref (x0)), (1, .int (x1)), (2, .null)] (by rw [h33]; rfl) ?_
    refine zx_aload_nN C dX1_append_74 2 rfl ?_
    obtain ⟨k57, i58, hm⟩ := ckO_e hm
    refine zx_put (j := 6) (ρ := sA (σ) (x0) 6 (none)) C tC_1 k57 i58 ⟨by decide, Or.inl W_1_186⟩ rfl rfl rfl (sA_ok (fun _ => rfl)) dX1_append_75 ?_
    refine zx_aload_n C dX1_append_78 0 rfl ?_
    refine zx_dup C dX1_append_79 rfl ?_
    refine zx_get (j := 9) C tC_1 k57 i58 ⟨by decide, Or.inl W_1_189⟩ dX1_append_80 (.int (tI (sA (σ) (x0) 6 (none)) (x0) 9)) rfl ?_
    refine zx_iload_n C dX1_append_83 1 rfl ?_
    refine zx_iadd C dX1_append_84 ?_
    refine zx_put (j := 9) (ρ := sI (sA (σ) (x0) 6 (none)) (x0) 9 ((tI (sA (σ) (x0) 6 (none)) (x0) 9) + (x1))) C tC_1 k57 i58 ⟨by decide, Or.inl W_1_189⟩ rfl rfl rfl (sI_ok (fun _ => rfl)) dX1_append_85 ?_
    refine zx_aload_n C dX1_append_88 0 rfl ?_
    refine zx_aload_n C dX1_append_89 0 rfl ?_
    refine zx_aload_n C dX1_append_90 0 rfl ?_
    refine zx_get (j := 10) C tC_1 k57 i58 ⟨by decide, Or.inl W_1_190⟩ dX1_append_91 (.int (tI (sI (sA (σ) (x0) 6 (none)) (x0) 9 ((tI (sA (σ) (x0) 6 (none)) (x0) 9) + (x1))) (x0) 10)) rfl ?_
    refine zx_iload_n C dX1_append_94 1 rfl ?_
    refine zx_iadd C dX1_append_95 ?_
    obtain ⟨v59, ρ60, h61, hm⟩ := cll_e hm
    refine zx_callV (σ := sI (sA (σ) (x0) 6 (none)) (x0) 9 ((tI (sA (σ) (x0) 6 (none)) (x0) 9) + (x1))) C [.int ((tI (sI (sA (σ) (x0) 6 (none)) (x0) 9 ((tI (sA (σ) (x0) 6 (none)) (x0) 9) + (x1))) (x0) 10) + (x1))] tC_1 k57 i58 Y_X1_wrap W_3_224 W_3_226 Wp_16 (c_X1_wrap h61) (by decide) (by decide) rfl (Nat.le_of_ble_eq_true rfl) dX1_append_96 rfl ?_
    obtain ⟨k62, i63, hm⟩ := ckO_e hm
    refine zx_put (j := 10) (ρ := sI (ρ60) (x0) 10 (v59)) C tC_1 k62 i63 ⟨by decide, Or.inl W_1_190⟩ rfl rfl rfl (sI_ok (fun _ => rfl)) dX1_append_99 ?_
    refine zx_aload_n C dX1_append_102 0 rfl ?_
    obtain ⟨a64, h65, hm⟩ := osm_e hm
    refine zx_get (j := 1) C tC_1 k62 i63 ⟨by decide, Or.inl W_1_181⟩ dX1_append_103 (.ref a64) (rf_s h65) ?_
    refine zx_aload_n C dX1_append_106 0 rfl ?_
    refine zx_get (j := 12) C tC_1 k62 i63 ⟨by decide, Or.inl W_1_192⟩ dX1_append_107 (.int (tI (sI (ρ60) (x0) 10 (v59)) (x0) 12)) rfl ?_
    refine zx_iconst (v := 1) C dX1_append_110 (by decide) ?_
    refine zx_iadd C dX1_append_111 ?_
    obtain ⟨k66, i67, hm⟩ := ckO_e hm
    obtain ⟨v68, ρ69, h70, hm⟩ := cll_e hm
    refine zx_callV (σ := sI (ρ60) (x0) 10 (v59)) C [.int ((tI (sI (ρ60) (x0) 10 (v59)) (x0) 12) + (1))] tC_5 k66 i67 Y_X5_emptyGroup W_2_172 W_2_124 W_2_125 (c_X5_emptyGroup h70) (by decide) (by decide) rfl (Nat.le_of_ble_eq_true rfl) dX1_append_112 rfl ?_
    refine zx_aload_n C dX1_append_115 0 rfl ?_
    obtain ⟨k71, i72, hm⟩ := ckO_e hm
    obtain ⟨a73, h74, hm⟩ := osm_e hm
    refine zx_get (j := 2) C tC_1 k71 i72 ⟨by decide, Or.inl W_1_182⟩ dX1_append_116 (.ref a73) (rf_s h74) ?_
    obtain ⟨k75, i76, hm⟩ := ckO_e hm
    obtain ⟨v77, ρ78, h79, hm⟩ := cll_e hm
    refine zx_callV (σ := ρ69) C [] tC_8 k75 i76 Y_X8_forgetChanges W_2_173 W_2_174 W_2_175 (c_X8_forgetChanges h79) (by decide) (by decide) rfl (Nat.le_of_ble_eq_true rfl) dX1_append_119 rfl ?_
    obtain ⟨rfl, rfl⟩ := ret_e hm
    exact zx_vret C rfl rfl rfl dX1_append_122
set_option maxRecDepth 100000 in
set_option maxHeartbeats 1000000 in
theorem c_X1_append {l : Launch} {D : va_G} {aC : Nat → ClassId} {b0 fu : Nat} {a0 : Nat} {p0 : Int32} {σ τ : tM} {v : Unit} (hm : m_X1_append b0 fu a0 p0 σ = some (v, τ)) : tMt l D aC b0 yX1_append (Cond.code yX1_append cX1_append 3 none) 4 86 [.ref (a0), .int (p0)] σ (.inl none) τ := by
  unfold m_X1_append at hm
  obtain ⟨hg, hm⟩ := grw_e hm
  refine tMt_of (n := 0) rfl (Nat.le_of_ble_eq_true rfl) hg ?_
  intro p e s m below meth c C htab hin
  refine zx_lv [0, 1] [(0, .ref (a0)), (1, .int (p0))] rfl ?_
  refine zx_aload_n C dX1_append_0 0 rfl ?_
  refine zx_dup C dX1_append_1 rfl ?_
  obtain ⟨k1, i2, hm⟩ := ckO_e hm
  refine zx_get (j := 12) C tC_1 k1 i2 ⟨by decide, Or.inl W_1_192⟩ dX1_append_2 (.int (tI (σ) (a0) 12)) rfl ?_
  refine zx_iconst (v := 1) C dX1_append_5 (by decide) ?_
  refine zx_iadd C dX1_append_6 ?_
  refine zx_put (j := 12) (ρ := sI (σ) (a0) 12 ((tI (σ) (a0) 12) + (1))) C tC_1 k1 i2 ⟨by decide, Or.inl W_1_192⟩ rfl rfl rfl (sI_ok (fun _ => rfl)) dX1_append_7 ?_
  refine zx_new C tC_7 W_4_13 W_4_14 W_1_19 dX1_append_10 ?_
  refine zx_mem (fun ρ3 hρ3 => ?_)
  replace hm := ltb_e hm hρ3
  have k4 : tk ρ3 (b0 + tn σ) = .inl 7 := by rw [hρ3]; exact sN_k _ _ _ _
  have i5 : tIn b0 ρ3 (b0 + tn σ) := by rw [hρ3]; exact sN_i _ _ _ _
  refine zx_dup C dX1_append_13 rfl ?_
  refine zx_aload_n C dX1_append_14 0 rfl ?_
  obtain ⟨k6, i7, hm⟩ := ckO_e hm
  refine zx_get (j := 12) C tC_1 k6 i7 ⟨by decide, Or.inl W_1_192⟩ dX1_append_15 (.int (tI (ρ3) (a0) 12)) rfl ?_
  refine zx_aload_n C dX1_append_18 0 rfl ?_
  refine zx_get (j := 17) C tC_1 k6 i7 ⟨by decide, Or.inl W_1_197⟩ dX1_append_19 (.int (tI (ρ3) (a0) 17)) rfl ?_
  refine zx_aload_n C dX1_append_22 0 rfl ?_
  refine zx_get (j := 10) C tC_1 k6 i7 ⟨by decide, Or.inl W_1_190⟩ dX1_append_23 (.int (tI (ρ3) (a0) 10)) rfl ?_
  refine zx_iload_n C dX1_append_26 1 rfl ?_
  refine zx_aload_n C dX1_append_27 0 rfl ?_
  obtain ⟨a8, h9, hm⟩ := osm_e hm
  refine zx_get (j := 1) C tC_1 k6 i7 ⟨by decide, Or.inl W_1_181⟩ dX1_append_28 (.ref a8) (rf_s h9) ?_
  obtain ⟨k10, i11, hm⟩ := ckO_e hm
  refine zx_get (j := 11) C tC_5 k10 i11 ⟨by decide, Or.inr ⟨_, W_1_112⟩⟩ dX1_append_31 (.int (tI (ρ3) (a8) 11)) rfl ?_
  refine zx_aload_n C dX1_append_34 0 rfl ?_
  obtain ⟨a12, h13, hm⟩ := osm_e hm
  refine zx_get (j := 1) C tC_1 k6 i7 ⟨by decide, Or.inl W_1_181⟩ dX1_append_35 (.ref a12) (rf_s h13) ?_
  obtain ⟨k14, i15, hm⟩ := ckO_e hm
  refine zx_get (j := 12) C tC_5 k14 i15 ⟨by decide, Or.inr ⟨_, W_1_114⟩⟩ dX1_append_38 (.int (tI (ρ3) (a12) 12)) rfl ?_
  obtain ⟨v16, ρ17, h18, hm⟩ := cll_e hm
  refine zx_callI (σ := ρ3) C [.int (tI (ρ3) (a0) 12), .int (tI (ρ3) (a0) 17), .int (tI (ρ3) (a0) 10), .int (p0), .int (tI (ρ3) (a8) 11), .int (tI (ρ3) (a12) 12)] Y_X7_init W_4_15 W_4_16 rfl (c_X7_init h18) (by decide) (by decide) rfl (Nat.le_of_ble_eq_true rfl) dX1_append_41 rfl ?_
  refine zx_astore_n C [(2, .ref (b0 + tn σ)), (0, .ref (a0)), (1, .int (p0))] dX1_append_44 rfl (by decide) rfl ?_
  refine zx_aload_n C dX1_append_45 1 rfl ?_
  refine zx_aload_n C dX1_append_46 0 rfl ?_
  obtain ⟨k19, i20, hm⟩ := ckO_e hm
  obtain ⟨v21, ρ22, h23, hm⟩ := cll_e hm
  refine zx_callV (σ := ρ17) C [.ref (b0 + tn σ)] tC_1 k19 i20 Y_X1_collect W_4_53 W_4_55 Wp_19 (c_X1_collect h23) (by decide) (by decide) rfl (Nat.le_of_ble_eq_true rfl) dX1_append_47 rfl ?_
  refine zx_aload_n C dX1_append_50 1 rfl ?_
  obtain ⟨k24, i25, hm⟩ := ckO_e hm
  rcases omt_e hm with ⟨a26, h27, hm⟩ | ⟨h27, hm⟩
  · refine zx_get (j := 6) C tC_1 k24 i25 ⟨by decide, Or.inl W_1_186⟩ dX1_append_51 (.ref a26) (rf_s h27) ?_
    refine zx_ifnonnull C 65 dX1_append_54 (by decide) ?_
    refine zx_aload_n C dX1_append_65 1 rfl ?_
    rcases omt_e hm with ⟨a28, h29, hm⟩ | ⟨h29, hm⟩
    · refine zx_get (j := 6) C tC_1 k24 i25 ⟨by decide, Or.inl W_1_186⟩ dX1_append_66 (.ref a28) (rf_s h29) ?_
      refine zx_aload_n C dX1_append_69 0 rfl ?_
      obtain ⟨k30, i31, hm⟩ := ckO_e hm
      refine zx_put (j := 7) (ρ := sA (ρ22) (a28) 7 (some (b0 + tn σ))) C tC_7 k30 i31 ⟨by decide, Or.inr ⟨_, W_4_35⟩⟩ rfl rfl rfl (sA_ok (fun _ => rfl)) dX1_append_70 ?_
      exact zx_lv [1, 2, 0] [(0, .ref (a0)), (1, .int (p0)), (2, va_rf (some (b0 + tn σ)))] rfl (j_X1_append_73 C htab hin    hm)
    · refine zx_get (j := 6) C tC_1 k24 i25 ⟨by decide, Or.inl W_1_186⟩ dX1_append_66 .null (rf_n h29) ?_
      refine zx_aload_n C dX1_append_69 0 rfl ?_
      cases hm
  · refine zx_get (j := 6) C tC_1 k24 i25 ⟨by decide, Or.inl W_1_186⟩ dX1_append_51 .null (rf_n h27) ?_
    refine zx_ifnonnullN C dX1_append_54 ?_
    refine zx_aload_n C dX1_append_57 1 rfl ?_
    refine zx_aload_n C dX1_append_58 0 rfl ?_
    refine zx_put (j := 5) (ρ := sA (ρ22) (a0) 5 (some (b0 + tn σ))) C tC_1 k24 i25 ⟨by decide, Or.inl W_1_185⟩ rfl rfl rfl (sA_ok (fun _ => rfl)) dX1_append_59 ?_
    refine zx_goto C 73 dX1_append_62 (by decide) ?_
    exact zx_lv [1, 2, 0] [(0, .ref (a0)), (1, .int (p0)), (2, va_rf (some (b0 + tn σ)))] rfl (j_X1_append_73 C htab hin    hm)
abbrev cX1_flush : ByteArray := prog_3_method_14_code
def yX1_flush : MethodName := ⟨"SyncTree$Journal", "flush", "()V"⟩
theorem Y_X1_flush : tY yX1_flush cX1_flush 1 none 0 := ⟨W_3_194, W_1_5, ⟨by decide +kernel, by decide +kernel⟩, by decide +kernel⟩
theorem dX1_flush_0 : decode cX1_flush 0 = .ok (.aload_n 0, 1) := by decide +kernel
theorem dX1_flush_1 : decode cX1_flush 1 = .ok (.getfield 21, 3) := by decide +kernel
theorem dX1_flush_4 : decode cX1_flush 4 = .ok (.invokevirtual 174, 3) := by decide +kernel
theorem dX1_flush_7 : decode cX1_flush 7 = .ok (.aload_n 0, 1) := by decide +kernel
theorem dX1_flush_8 : decode cX1_flush 8 = .ok (.aload_n 0, 1) := by decide +kernel
theorem dX1_flush_9 : decode cX1_flush 9 = .ok (.getfield 66, 3) := by decide +kernel
theorem dX1_flush_12 : decode cX1_flush 12 = .ok (.putfield 69, 3) := by decide +kernel
theorem dX1_flush_15 : decode cX1_flush 15 = .ok (.aload_n 0, 1) := by decide +kernel
theorem dX1_flush_16 : decode cX1_flush 16 = .ok (.getfield 25, 3) := by decide +kernel
theorem dX1_flush_19 : decode cX1_flush 19 = .ok (.aload_n 0, 1) := by decide +kernel
theorem dX1_flush_20 : decode cX1_flush 20 = .ok (.getfield 69, 3) := by decide +kernel
theorem dX1_flush_23 : decode cX1_flush 23 = .ok (.invokevirtual 177, 3) := by decide +kernel
theorem dX1_flush_26 : decode cX1_flush 26 = .ok (.aload_n 0, 1) := by decide +kernel
theorem dX1_flush_27 : decode cX1_flush 27 = .ok (.aload_n 0, 1) := by decide +kernel
theorem dX1_flush_28 : decode cX1_flush 28 = .ok (.getfield 75, 3) := by decide +kernel
theorem dX1_flush_31 : decode cX1_flush 31 = .ok (.putfield 78, 3) := by decide +kernel
theorem dX1_flush_34 : decode cX1_flush 34 = .ok (.aload_n 0, 1) := by decide +kernel
theorem dX1_flush_35 : decode cX1_flush 35 = .ok (.aload_n 0, 1) := by decide +kernel
theorem dX1_flush_36 : decode cX1_flush 36 = .ok (.getfield 78, 3) := by decide +kernel
theorem dX1_flush_39 : decode cX1_flush 39 = .ok (.invokevirtual 180, 3) := by decide +kernel
theorem dX1_flush_42 : decode cX1_flush 42 = .ok (.aload_n 0, 1) := by decide +kernel
theorem dX1_flush_43 : decode cX1_flush 43 = .ok (.getfield 72, 3) := by decide +kernel
theorem dX1_flush_46 : decode cX1_flush 46 = .ok (.aload_n 0, 1) := by decide +kernel
theorem dX1_flush_47 : decode cX1_flush 47 = .ok (.getfield 75, 3) := by decide +kernel
theorem dX1_flush_50 : decode cX1_flush 50 = .ok (.if_icmp .le 23, 3) := by decide +kernel
theorem dX1_flush_53 : decode cX1_flush 53 = .ok (.aload_n 0, 1) := by decide +kernel
theorem dX1_flush_54 : decode cX1_flush 54 = .ok (.aload_n 0, 1) := by decide +kernel
theorem dX1_flush_55 : decode cX1_flush 55 = .ok (.getfield 72, 3) := by decide +kernel
theorem dX1_flush_58 : decode cX1_flush 58 = .ok (.putfield 75, 3) := by decide +kernel
theorem dX1_flush_61 : decode cX1_flush 61 = .ok (.aload_n 0, 1) := by decide +kernel
theorem dX1_flush_62 : decode cX1_flush 62 = .ok (.getfield 21, 3) := by decide +kernel
theorem dX1_flush_65 : decode cX1_flush 65 = .ok (.iconst 0, 1) := by decide +kernel
theorem dX1_flush_66 : decode cX1_flush 66 = .ok (.aload_n 0, 1) := by decide +kernel
theorem dX1_flush_67 : decode cX1_flush 67 = .ok (.getfield 75, 3) := by decide +kernel
theorem dX1_flush_70 : decode cX1_flush 70 = .ok (.invokevirtual 126, 3) := by decide +kernel
theorem dX1_flush_73 : decode cX1_flush 73 = .ok (.return_, 1) := by decide +kernel
set_option maxRecDepth 100000 in
set_option maxHeartbeats 1000000 in
theorem j_X1_flush_73 {p : Program} {l : Launch} {e : Env} {s : State} {m : MethodId} {args : Array Value} {below : List Frame} {meth : Method} {c : Code} {D : va_G} {aC : Nat → ClassId} {b0 fu : Nat} {σ0 τ : tM} {v : (Unit) ⊕ Unit}  (C : tCx p l s m args meth c yX1_flush.cls cX1_flush 1 none D aC b0 σ0) (htab : ∀ x ∈ c.exceptionTable.toList, False) (hin : meth.name = yX1_flush.name)   {σ : tM} (hm : J_X1_flush_73 b0 fu   σ = some (v, τ)) : tX p l e s m args below meth c 1 8 133 D aC b0 σ0 (rxV "java/lang/IllegalStateException" v) τ 73 [] [] σ := by
  unfold J_X1_flush_73 at hm
  obtain ⟨rfl, rfl⟩ := ret_e hm
  exact zx_vret C rfl rfl rfl dX1_flush_73
set_option maxRecDepth 100000 in
set_option maxHeartbeats 1000000 in
theorem c_X1_flush {l : Launch} {D : va_G} {aC : Nat → ClassId} {b0 fu : Nat} {a0 : Nat} {σ τ : tM} {v : (Unit) ⊕ Unit} (hm : m_X1_flush b0 fu a0 σ = some (v, τ)) : tMt l D aC b0 yX1_flush (Cond.code yX1_flush cX1_flush 1 none) 8 133 [.ref (a0)] σ (rxV "java/lang/IllegalStateException" v) τ := by
  unfold m_X1_flush at hm
  obtain ⟨hg, hm⟩ := grw_e hm
  refine tMt_of (n := 0) rfl (Nat.le_of_ble_eq_true rfl) hg ?_
  intro p e s m below meth c C htab hin
  refine zx_lv [0] [(0, .ref (a0))] rfl ?_
  refine zx_aload_n C dX1_flush_0 0 rfl ?_
  obtain ⟨k1, i2, hm⟩ := ckO_e hm
  obtain ⟨a3, h4, hm⟩ := osm_e hm
  refine zx_get (j := 0) C tC_1 k1 i2 ⟨by decide, Or.inl W_1_180⟩ dX1_flush_1 (.ref a3) (rf_s h4) ?_
  obtain ⟨k5, i6, hm⟩ := ckO_e hm
  rcases clx_e hm with ⟨v7, ρ8, h9, hm⟩ | ⟨ρ8, h9, hm⟩
  · refine zx_callV (σ := σ) C [] tC_0 k5 i6 Y_X0_flushCache W_3_195 W_3_196 W_3_197 (c_X0_flushCache h9) (by decide) (by decide) rfl (Nat.le_of_ble_eq_true rfl) dX1_flush_4 rfl ?_
    refine zx_aload_n C dX1_flush_7 0 rfl ?_
    refine zx_aload_n C dX1_flush_8 0 rfl ?_
    obtain ⟨k10, i11, hm⟩ := ckO_e hm
    refine zx_get (j := 12) C tC_1 k10 i11 ⟨by decide, Or.inl W_1_192⟩ dX1_flush_9 (.int (tI (ρ8) (a0) 12)) rfl ?_
    refine zx_put (j := 13) (ρ := sI (ρ8) (a0) 13 (tI (ρ8) (a0) 12)) C tC_1 k10 i11 ⟨by decide, Or.inl W_1_193⟩ rfl rfl rfl (sI_ok (fun _ => rfl)) dX1_flush_12 ?_
    refine zx_aload_n C dX1_flush_15 0 rfl ?_
    obtain ⟨a12, h13, hm⟩ := osm_e hm
    refine zx_get (j := 1) C tC_1 k10 i11 ⟨by decide, Or.inl W_1_181⟩ dX1_flush_16 (.ref a12) (rf_s h13) ?_
    refine zx_aload_n C dX1_flush_19 0 rfl ?_
    refine zx_get (j := 13) C tC_1 k10 i11 ⟨by decide, Or.inl W_1_193⟩ dX1_flush_20 (.int (tI (sI (ρ8) (a0) 13 (tI (ρ8) (a0) 12)) (a0) 13)) rfl ?_
    obtain ⟨k14, i15, hm⟩ := ckO_e hm
    obtain ⟨v16, ρ17, h18, hm⟩ := cll_e hm
    refine zx_callV (σ := sI (ρ8) (a0) 13 (tI (ρ8) (a0) 12)) C [.int (tI (sI (ρ8) (a0) 13 (tI (ρ8) (a0) 12)) (a0) 13)] tC_5 k14 i15 Y_X5_freeRetired W_3_216 W_3_217 W_3_218 (c_X5_freeRetired h18) (by decide) (by decide) rfl (Nat.le_of_ble_eq_true rfl) dX1_flush_23 rfl ?_
    refine zx_aload_n C dX1_flush_26 0 rfl ?_
    refine zx_aload_n C dX1_flush_27 0 rfl ?_
    obtain ⟨k19, i20, hm⟩ := ckO_e hm
    refine zx_get (j := 15) C tC_1 k19 i20 ⟨by decide, Or.inl W_1_195⟩ dX1_flush_28 (.int (tI (ρ17) (a0) 15)) rfl ?_
    refine zx_put (j := 16) (ρ := sI (ρ17) (a0) 16 (tI (ρ17) (a0) 15)) C tC_1 k19 i20 ⟨by decide, Or.inl W_1_196⟩ rfl rfl rfl (sI_ok (fun _ => rfl)) dX1_flush_31 ?_
    refine zx_aload_n C dX1_flush_34 0 rfl ?_
    refine zx_aload_n C dX1_flush_35 0 rfl ?_
    refine zx_get (j := 16) C tC_1 k19 i20 ⟨by decide, Or.inl W_1_196⟩ dX1_flush_36 (.int (tI (sI (ρ17) (a0) 16 (tI (ρ17) (a0) 15)) (a0) 16)) rfl ?_
    obtain ⟨v21, ρ22, h23, hm⟩ := cll_e hm
    refine zx_callV (σ := sI (ρ17) (a0) 16 (tI (ρ17) (a0) 15)) C [.int (tI (sI (ρ17) (a0) 16 (tI (ρ17) (a0) 15)) (a0) 16)] tC_1 k19 i20 Y_X1_fold W_3_220 W_3_222 Wp_15 (c_X1_fold h23) (by decide) (by decide) rfl (Nat.le_of_ble_eq_true rfl) dX1_flush_39 rfl ?_
    refine zx_aload_n C dX1_flush_42 0 rfl ?_
    obtain ⟨k24, i25, hm⟩ := ckO_e hm
    refine zx_get (j := 14) C tC_1 k24 i25 ⟨by decide, Or.inl W_1_194⟩ dX1_flush_43 (.int (tI (ρ22) (a0) 14)) rfl ?_
    refine zx_aload_n C dX1_flush_46 0 rfl ?_
    refine zx_get (j := 15) C tC_1 k24 i25 ⟨by decide, Or.inl W_1_195⟩ dX1_flush_47 (.int (tI (ρ22) (a0) 15)) rfl ?_
    refine zx_icmp_le C 73 dX1_flush_50 (by decide) (fun c26 => ?_) (fun c26 => ?_)
    · replace hm := ip_e hm c26
      exact zx_lv [] [] rfl (j_X1_flush_73 C htab hin    hm)
    · replace hm := in_e hm c26
      refine zx_aload_n C dX1_flush_53 0 rfl ?_
      refine zx_aload_n C dX1_flush_54 0 rfl ?_
      refine zx_get (j := 14) C tC_1 k24 i25 ⟨by decide, Or.inl W_1_194⟩ dX1_flush_55 (.int (tI (ρ22) (a0) 14)) rfl ?_
      refine zx_put (j := 15) (ρ := sI (ρ22) (a0) 15 (tI (ρ22) (a0) 14)) C tC_1 k24 i25 ⟨by decide, Or.inl W_1_195⟩ rfl rfl rfl (sI_ok (fun _ => rfl)) dX1_flush_58 ?_
      refine zx_aload_n C dX1_flush_61 0 rfl ?_
      obtain ⟨a27, h28, hm⟩ := osm_e hm
      refine zx_get (j := 0) C tC_1 k24 i25 ⟨by decide, Or.inl W_1_180⟩ dX1_flush_62 (.ref a27) (rf_s h28) ?_
      refine zx_iconst (v := 0) C dX1_flush_65 (by decide) ?_
      refine zx_aload_n C dX1_flush_66 0 rfl ?_
      refine zx_get (j := 15) C tC_1 k24 i25 ⟨by decide, Or.inl W_1_195⟩ dX1_flush_67 (.int (tI (sI (ρ22) (a0) 15 (tI (ρ22) (a0) 14)) (a0) 15)) rfl ?_
      obtain ⟨k29, i30, hm⟩ := ckO_e hm
      rcases clx_e hm with ⟨v31, ρ32, h33, hm⟩ | ⟨ρ32, h33, hm⟩
      · refine zx_callV (σ := sI (ρ22) (a0) 15 (tI (ρ22) (a0) 14)) C [.int (0), .int (tI (sI (ρ22) (a0) 15 (tI (ρ22) (a0) 14)) (a0) 15)] tC_0 k29 i30 Y_X0_put W_3_228 W_3_229 W_3_230 (c_X0_put h33) (by decide) (by decide) rfl (Nat.le_of_ble_eq_true rfl) dX1_flush_70 rfl ?_
        exact zx_lv [] [] rfl (j_X1_flush_73 C htab hin    hm)
      · cases hm
        exact zx_outV (σ := sI (ρ22) (a0) 15 (tI (ρ22) (a0) 14)) C htab [.int (0), .int (tI (sI (ρ22) (a0) 15 (tI (ρ22) (a0) 14)) (a0) 15)] tC_0 k29 i30 Y_X0_put W_3_228 W_3_229 W_3_230 (c_X0_put h33) rfl (by decide) (by decide) rfl (Nat.le_of_ble_eq_true rfl) dX1_flush_70 rfl
  · cases hm
    exact zx_outV (σ := σ) C htab [] tC_0 k5 i6 Y_X0_flushCache W_3_195 W_3_196 W_3_197 (c_X0_flushCache h9) rfl (by decide) (by decide) rfl (Nat.le_of_ble_eq_true rfl) dX1_flush_4 rfl
abbrev cX1_applySome : ByteArray := prog_3_method_18_code
def yX1_applySome : MethodName := ⟨"SyncTree$Journal", "applySome", "(I)I"⟩
theorem Y_X1_applySome : tY yX1_applySome cX1_applySome 5 (some .int) 1 := ⟨W_3_236, W_1_5, ⟨by decide +kernel, by decide +kernel⟩, by decide +kernel⟩
theorem dX1_applySome_0 : decode cX1_applySome 0 = .ok (.iconst 0, 1) := by decide +kernel
theorem dX1_applySome_1 : decode cX1_applySome 1 = .ok (.istore_n 2, 1) := by decide +kernel
theorem dX1_applySome_2 : decode cX1_applySome 2 = .ok (.aload_n 0, 1) := by decide +kernel
theorem dX1_applySome_3 : decode cX1_applySome 3 = .ok (.getfield 152, 3) := by decide +kernel
theorem dX1_applySome_6 : decode cX1_applySome 6 = .ok (.astore_n 3, 1) := by decide +kernel
theorem dX1_applySome_7 : decode cX1_applySome 7 = .ok (.aload_n 3, 1) := by decide +kernel
theorem dX1_applySome_8 : decode cX1_applySome 8 = .ok (.ifnull 105, 3) := by decide +kernel
theorem dX1_applySome_11 : decode cX1_applySome 11 = .ok (.aload_n 3, 1) := by decide +kernel
theorem dX1_applySome_12 : decode cX1_applySome 12 = .ok (.getfield 183, 3) := by decide +kernel
theorem dX1_applySome_15 : decode cX1_applySome 15 = .ok (.aload_n 0, 1) := by decide +kernel
theorem dX1_applySome_16 : decode cX1_applySome 16 = .ok (.getfield 69, 3) := by decide +kernel
theorem dX1_applySome_19 : decode cX1_applySome 19 = .ok (.if_icmp .gt 94, 3) := by decide +kernel
theorem dX1_applySome_22 : decode cX1_applySome 22 = .ok (.iload_n 2, 1) := by decide +kernel
theorem dX1_applySome_23 : decode cX1_applySome 23 = .ok (.iload_n 1, 1) := by decide +kernel
theorem dX1_applySome_24 : decode cX1_applySome 24 = .ok (.if_icmp .ge 89, 3) := by decide +kernel
theorem dX1_applySome_27 : decode cX1_applySome 27 = .ok (.aload_n 3, 1) := by decide +kernel
theorem dX1_applySome_28 : decode cX1_applySome 28 = .ok (.getfield 183, 3) := by decide +kernel
theorem dX1_applySome_31 : decode cX1_applySome 31 = .ok (.aload_n 0, 1) := by decide +kernel
theorem dX1_applySome_32 : decode cX1_applySome 32 = .ok (.getfield 72, 3) := by decide +kernel
theorem dX1_applySome_35 : decode cX1_applySome 35 = .ok (.if_icmp .le 70, 3) := by decide +kernel
theorem dX1_applySome_38 : decode cX1_applySome 38 = .ok (.iconst 0, 1) := by decide +kernel
theorem dX1_applySome_39 : decode cX1_applySome 39 = .ok (.istore 4, 2) := by decide +kernel
theorem dX1_applySome_41 : decode cX1_applySome 41 = .ok (.iload 4, 2) := by decide +kernel
theorem dX1_applySome_43 : decode cX1_applySome 43 = .ok (.aload_n 3, 1) := by decide +kernel
theorem dX1_applySome_44 : decode cX1_applySome 44 = .ok (.getfield 157, 3) := by decide +kernel
theorem dX1_applySome_47 : decode cX1_applySome 47 = .ok (.arraylength, 1) := by decide +kernel
theorem dX1_applySome_48 : decode cX1_applySome 48 = .ok (.if_icmp .ge 46, 3) := by decide +kernel
theorem dX1_applySome_51 : decode cX1_applySome 51 = .ok (.aload_n 0, 1) := by decide +kernel
theorem dX1_applySome_52 : decode cX1_applySome 52 = .ok (.aload_n 3, 1) := by decide +kernel
theorem dX1_applySome_53 : decode cX1_applySome 53 = .ok (.aload_n 3, 1) := by decide +kernel
theorem dX1_applySome_54 : decode cX1_applySome 54 = .ok (.getfield 157, 3) := by decide +kernel
theorem dX1_applySome_57 : decode cX1_applySome 57 = .ok (.iload 4, 2) := by decide +kernel
theorem dX1_applySome_59 : decode cX1_applySome 59 = .ok (.iaload, 1) := by decide +kernel
theorem dX1_applySome_60 : decode cX1_applySome 60 = .ok (.invokevirtual 199, 3) := by decide +kernel
theorem dX1_applySome_63 : decode cX1_applySome 63 = .ok (.ifCond .ne 25, 3) := by decide +kernel
theorem dX1_applySome_66 : decode cX1_applySome 66 = .ok (.aload_n 0, 1) := by decide +kernel
theorem dX1_applySome_67 : decode cX1_applySome 67 = .ok (.getfield 21, 3) := by decide +kernel
theorem dX1_applySome_70 : decode cX1_applySome 70 = .ok (.aload_n 0, 1) := by decide +kernel
theorem dX1_applySome_71 : decode cX1_applySome 71 = .ok (.getfield 25, 3) := by decide +kernel
theorem dX1_applySome_74 : decode cX1_applySome 74 = .ok (.aload_n 3, 1) := by decide +kernel
theorem dX1_applySome_75 : decode cX1_applySome 75 = .ok (.getfield 157, 3) := by decide +kernel
theorem dX1_applySome_78 : decode cX1_applySome 78 = .ok (.iload 4, 2) := by decide +kernel
theorem dX1_applySome_80 : decode cX1_applySome 80 = .ok (.iaload, 1) := by decide +kernel
theorem dX1_applySome_81 : decode cX1_applySome 81 = .ok (.invokevirtual 203, 3) := by decide +kernel
theorem dX1_applySome_84 : decode cX1_applySome 84 = .ok (.iconst 0, 1) := by decide +kernel
theorem dX1_applySome_85 : decode cX1_applySome 85 = .ok (.invokevirtual 126, 3) := by decide +kernel
theorem dX1_applySome_88 : decode cX1_applySome 88 = .ok (.iinc 4 1, 3) := by decide +kernel
theorem dX1_applySome_91 : decode cX1_applySome 91 = .ok (.goto (-50), 3) := by decide +kernel
theorem dX1_applySome_94 : decode cX1_applySome 94 = .ok (.aload_n 0, 1) := by decide +kernel
theorem dX1_applySome_95 : decode cX1_applySome 95 = .ok (.aload_n 3, 1) := by decide +kernel
theorem dX1_applySome_96 : decode cX1_applySome 96 = .ok (.getfield 183, 3) := by decide +kernel
theorem dX1_applySome_99 : decode cX1_applySome 99 = .ok (.putfield 72, 3) := by decide +kernel
theorem dX1_applySome_102 : decode cX1_applySome 102 = .ok (.iinc 2 1, 3) := by decide +kernel
theorem dX1_applySome_105 : decode cX1_applySome 105 = .ok (.aload_n 3, 1) := by decide +kernel
theorem dX1_applySome_106 : decode cX1_applySome 106 = .ok (.getfield 155, 3) := by decide +kernel
theorem dX1_applySome_109 : decode cX1_applySome 109 = .ok (.astore_n 3, 1) := by decide +kernel
theorem dX1_applySome_110 : decode cX1_applySome 110 = .ok (.goto (-103), 3) := by decide +kernel
theorem dX1_applySome_113 : decode cX1_applySome 113 = .ok (.iload_n 2, 1) := by decide +kernel
theorem dX1_applySome_114 : decode cX1_applySome 114 = .ok (.ireturn, 1) := by decide +kernel
set_option maxRecDepth 100000 in
set_option maxHeartbeats 1000000 in
theorem j_X1_applySome_113 {p : Program} {l : Launch} {e : Env} {s : State} {m : MethodId} {args : Array Value} {below : List Frame} {meth : Method} {c : Code} {D : va_G} {aC : Nat → ClassId} {b0 fu : Nat} {σ0 τ : tM} {v : (Int32) ⊕ Unit}  (C : tCx p l s m args meth c yX1_applySome.cls cX1_applySome 5 (some .int) D aC b0 σ0) (htab : ∀ x ∈ c.exceptionTable.toList, False) (hin : meth.name = yX1_applySome.name)  {x2 : Int32} {σ : tM} (hm : J_X1_applySome_113 b0 fu  x2 σ = some (v, τ)) : tX p l e s m args below meth c 5 8 133 D aC b0 σ0 (rxI "java/lang/IllegalStateException" v) τ 113 [(2, .int (x2))] [] σ := by
  unfold J_X1_applySome_113 at hm
  refine zx_iload_n C dX1_applySome_113 0 rfl ?_
  obtain ⟨rfl, rfl⟩ := ret_e hm
  exact zx_iret C rfl rfl rfl dX1_applySome_114
set_option maxRecDepth 100000 in
set_option maxHeartbeats 1000000 in
theorem j_X1_applySome_105 {p : Program} {l : Launch} {e : Env} {s : State} {m : MethodId} {args : Array Value} {below : List Frame} {meth : Method} {c : Code} {D : va_G} {aC : Nat → ClassId} {b0 fu : Nat} {σ0 τ : tM} {v : (Int32) ⊕ Unit} {rc7 : Nat → Int32 → Int32 → Option Nat → tM → Option (((Int32) ⊕ Unit) × tM)} (C : tCx p l s m args meth c yX1_applySome.cls cX1_applySome 5 (some .int) D aC b0 σ0) (htab : ∀ x ∈ c.exceptionTable.toList, False) (hin : meth.name = yX1_applySome.name) (hrc7 : ∀ (x0 : Nat) (x1 : Int32) (x2 : Int32) (x3 : Option Nat) (ρ : tM), rc7 x0 x1 x2 x3 ρ = some (v, τ) → tX p l e s m args below meth c 5 8 133 D aC b0 σ0 (rxI "java/lang/IllegalStateException" v) τ 7 [(0, .ref (x0)), (1, .int (x1)), (2, .int (x2)), (3, va_rf (x3))] [] ρ) {x0 : Nat} {x1 : Int32} {x2 : Int32} {x3 : Option Nat} {σ : tM} (hm : J_X1_applySome_105 b0 fu rc7 x0 x1 x2 x3 σ = some (v, τ)) : tX p l e s m args below meth c 5 8 133 D aC b0 σ0 (rxI "java/lang/IllegalStateException" v) τ 105 [(0, .ref (x0)), (1, .int (x1)), (2, .int (x2)), (3, va_rf (x3))] [] σ := by
  unfold J_X1_applySome_105 at hm
  rcases omt_e hm with ⟨o14, h15, hm⟩ | ⟨h15, hm⟩
  · refine zx_lv [0, 1, 2, 3] [(0, .ref (x0)), (1, .int (x1)), (2, .int (x2)), (3, .ref (o14))] (by rw [h15]; rfl) ?_
    refine zx_aload_n C dX1_applySome_105 3 rfl ?_
    obtain ⟨k16, i17, hm⟩ := ckO_e hm
    rcases omt_e hm with ⟨a18, h19, hm⟩ | ⟨h19, hm⟩
    · refine zx_get (j := 7) C tC_7 k16 i17 ⟨by decide, Or.inr ⟨_, W_4_35⟩⟩ dX1_applySome_106 (.ref a18) (rf_s h19) ?_
      refine zx_astore_n C [(3, .ref (a18)), (0, .ref (x0)), (1, .int (x1)), (2, .int (x2))] dX1_applySome_109 rfl (by decide) rfl ?_
      refine zx_goto C 7 dX1_applySome_110 (by decide) ?_
      exact zx_lv [1, 2, 3, 0] [(0, .ref (x0)), (1, .int (x1)), (2, .int (x2)), (3, va_rf (some (a18)))] rfl (hrc7 _ _ _ _ _ hm)
    · refine zx_get (j := 7) C tC_7 k16 i17 ⟨by decide, Or.inr ⟨_, W_4_35⟩⟩ dX1_applySome_106 .null (rf_n h19) ?_
      refine zx_astore_nN C [(3, .null), (0, .ref (x0)), (1, .int (x1)), (2, .int (x2))] dX1_applySome_109 rfl (by decide) rfl ?_
      refine zx_goto C 7 dX1_applySome_110 (by decide) ?_
      exact zx_lv [1, 2, 3, 0] [(0, .ref (x0)), (1, .int (x1)), (2, .int (x2)), (3, va_rf (none))] rfl (hrc7 _ _ _ _ _ hm)
  · refine zx_lv [0, 1, 2, 3] [(0, .ref (x0)), (1, .int (x1)), (2, .int (x2)), (3, .null)] (by rw [h15]; rfl) ?_
    refine zx_aload_nN C dX1_applySome_105 3 rfl ?_
    cases hm
set_option maxRecDepth 100000 in
set_option maxHeartbeats 1000000 in
theorem j_X1_applySome_88 {p : Program} {l : Launch} {e : Env} {s : State} {m : MethodId} {args : Array Value} {below : List Frame} {meth : Method} {c : Code} {D : va_G} {aC : Nat → ClassId} {b0 fu : Nat} {σ0 τ : tM} {v : (Int32) ⊕ Unit} {rc7 : Nat → Int32 → Int32 → Option Nat → tM → Option (((Int32) ⊕ Unit) × tM)} {rc41 : Nat → Int32 → Int32 → Option Nat → Int32 → tM → Option (((Int32) ⊕ Unit) × tM)} (C : tCx p l s m args meth c yX1_applySome.cls cX1_applySome 5 (some .int) D aC b0 σ0) (htab : ∀ x ∈ c.exceptionTable.toList, False) (hin : meth.name = yX1_applySome.name) (hrc7 : ∀ (x0 : Nat) (x1 : Int32) (x2 : Int32) (x3 : Option Nat) (ρ : tM), rc7 x0 x1 x2 x3 ρ = some (v, τ) → tX p l e s m args below meth c 5 8 133 D aC b0 σ0 (rxI "java/lang/IllegalStateException" v) τ 7 [(0, .ref (x0)), (1, .int (x1)), (2, .int (x2)), (3, va_rf (x3))] [] ρ) (hrc41 : ∀ (x0 : Nat) (x1 : Int32) (x2 : Int32) (x3 : Option Nat) (x4 : Int32) (ρ : tM), rc41 x0 x1 x2 x3 x4 ρ = some (v, τ) → tX p l e s m args below meth c 5 8 133 D aC b0 σ0 (rxI "java/lang/IllegalStateException" v) τ 41 [(0, .ref (x0)), (1, .int (x1)), (2, .int (x2)), (3, va_rf (x3)), (4, .int (x4))] [] ρ) {x0 : Nat} {x1 : Int32} {x2 : Int32} {x3 : Option Nat} {x4 : Int32} {σ : tM} (hm : J_X1_applySome_88 b0 fu rc7 rc41 x0 x1 x2 x3 x4 σ = some (v, τ)) : tX p l e s m args below meth c 5 8 133 D aC b0 σ0 (rxI "java/lang/IllegalStateException" v) τ 88 [(0, .ref (x0)), (1, .int (x1)), (2, .int (x2)), (3, va_rf (x3)), (4, .int (x4))] [] σ := by
  unfold J_X1_applySome_88 at hm
  obtain ⟨y45, hy45⟩ : ∃ z : Int32, z = (x4) + Int32.ofInt 1 := ⟨_, rfl⟩
  replace hm := ltb_e hm hy45
  refine zx_iinc C [(4, .int (y45)), (0, .ref (x0)), (1, .int (x1)), (2, .int (x2)), (3, va_rf (x3))] dX1_applySome_88 4 rfl hy45.symm (by decide) (by cases x3 <;> rfl) ?_
  refine zx_goto C 41 dX1_applySome_91 (by decide) ?_
  exact zx_lv [1, 2, 3, 4, 0] [(0, .ref (x0)), (1, .int (x1)), (2, .int (x2)), (3, va_rf (x3)), (4, .int (y45))] rfl (hrc41 _ _ _ _ _ _ hm)
set_option maxRecDepth 100000 in
set_option maxHeartbeats 1000000 in
theorem l_X1_applySome_41 {p : Program} {l : Launch} {e : Env} {s : State} {m : MethodId} {args : Array Value} {below : List Frame} {meth : Method} {c : Code} {D : va_G} {aC : Nat → ClassId} {b0 fu : Nat} {σ0 τ : tM} {v : (Int32) ⊕ Unit} {rc7 : Nat → Int32 → Int32 → Option Nat → tM → Option (((Int32) ⊕ Unit) × tM)} (C : tCx p l s m args meth c yX1_applySome.cls cX1_applySome 5 (some .int) D aC b0 σ0) (htab : ∀ x ∈ c.exceptionTable.toList, False) (hin : meth.name = yX1_applySome.name) (hrc7 : ∀ (x0 : Nat) (x1 : Int32) (x2 : Int32) (x3 : Option Nat) (ρ : tM), rc7 x0 x1 x2 x3 ρ = some (v, τ) → tX p l e s m args below meth c 5 8 133 D aC b0 σ0 (rxI "java/lang/IllegalStateException" v) τ 7 [(0, .ref (x0)), (1, .int (x1)), (2, .int (x2)), (3, va_rf (x3))] [] ρ) : ∀ (n : Nat) (x0 : Nat) (x1 : Int32) (x2 : Int32) (x3 : Option Nat) (x4 : Int32) (σ : tM), L_X1_applySome_41 b0 fu rc7 n x0 x1 x2 x3 x4 σ = some (v, τ) → tX p l e s m args below meth c 5 8 133 D aC b0 σ0 (rxI "java/lang/IllegalStateException" v) τ 41 [(0, .ref (x0)), (1, .int (x1)), (2, .int (x2)), (3, va_rf (x3)), (4, .int (x4))] [] σ := by
  intro n
  induction n with
  | zero => intro x0 x1 x2 x3 x4 σ hm; unfold L_X1_applySome_41 at hm; cases hm
  | succ n ih =>
    intro x0 x1 x2 x3 x4 σ hm
    unfold L_X1_applySome_41 at hm
    obtain ⟨rc41, hrc⟩ : ∃ z, z = L_X1_applySome_41 b0 fu rc7 n := ⟨_, rfl⟩
    replace hm := ltb_e hm hrc
    rw [← hrc] at ih
    have hrc41 := ih
    clear ih hrc
    refine zx_iload C dX1_applySome_41 4 rfl ?_
    rcases omt_e hm with ⟨o20, h21, hm⟩ | ⟨h21, hm⟩
    · refine zx_lv [0, 1, 2, 3, 4] [(0, .ref (x0)), (1, .int (x1)), (2, .int (x2)), (3, .ref (o20)), (4, .int (x4))] (by rw [h21]; rfl) ?_
      refine zx_aload_n C dX1_applySome_43 3 rfl ?_
      obtain ⟨k22, i23, hm⟩ := ckO_e hm
      obtain ⟨a24, h25, hm⟩ := osm_e hm
      refine zx_get (j := 4) C tC_7 k22 i23 ⟨by decide, Or.inr ⟨_, W_4_30⟩⟩ dX1_applySome_44 (.ref a24) (rf_s h25) ?_
      obtain ⟨n28, k26, i27, hm⟩ := ckR_e hm
      refine zx_alen C k26 (by decide) i27 dX1_applySome_47 ?_
      refine zx_icmp_ge C 94 dX1_applySome_48 (by decide) (fun c29 => ?_) (fun c29 => ?_)
      · replace hm := ip_e hm c29
        refine zx_aload_n C dX1_applySome_94 0 rfl ?_
        refine zx_aload_n C dX1_applySome_95 3 rfl ?_
        refine zx_get (j := 0) C tC_7 k22 i23 ⟨by decide, Or.inr ⟨_, W_4_22⟩⟩ dX1_applySome_96 (.int (tI (σ) (o20) 0)) rfl ?_
        obtain ⟨k30, i31, hm⟩ := ckO_e hm
        refine zx_put (j := 14) (ρ := sI (σ) (x0) 14 (tI (σ) (o20) 0)) C tC_1 k30 i31 ⟨by decide, Or.inl W_1_194⟩ rfl rfl rfl (sI_ok (fun _ => rfl)) dX1_applySome_99 ?_
        obtain ⟨y32, hy32⟩ : ∃ z : Int32, z = (x2) + Int32.ofInt 1 := ⟨_, rfl⟩
        replace hm := ltb_e hm hy32
        refine zx_iinc C [(2, .int (y32)), (0, .ref (x0)), (1, .int (x1)), (3, .ref (o20)), (4, .int (x4))] dX1_applySome_102 2 rfl hy32.symm (by decide) rfl ?_
        exact zx_lv [1, 2, 0, 3] [(0, .ref (x0)), (1, .int (x1)), (2, .int (y32)), (3, va_rf (some (o20)))] rfl (j_X1_applySome_105 C htab hin hrc7   hm)
      · replace hm := in_e hm c29
        refine zx_aload_n C dX1_applySome_51 0 rfl ?_
        refine zx_aload_n C dX1_applySome_52 3 rfl ?_
        refine zx_aload_n C dX1_applySome_53 3 rfl ?_
        obtain ⟨a33, h34, hm⟩ := osm_e hm
        refine zx_get (j := 4) C tC_7 k22 i23 ⟨by decide, Or.inr ⟨_, W_4_30⟩⟩ dX1_applySome_54 (.ref a33) (rf_s h34) ?_
        refine zx_iload C dX1_applySome_57 4 rfl ?_
        obtain ⟨n37, k35, i36, hm⟩ := ckR_e hm
        obtain ⟨h38, hm⟩ := ckI_e hm
        refine zx_iald C k35 i36 h38 dX1_applySome_59 ?_
        obtain ⟨k39, i40, hm⟩ := ckO_e hm
        obtain ⟨v41, ρ42, h43, hm⟩ := cll_e hm
        refine zx_callV (σ := σ) C [.ref (o20), .int (tI (σ) (a33) ((x4).toNatClampNeg))] tC_1 k39 i40 Y_X1_isRevokedLater W_3_237 W_3_239 Wp_17 (c_X1_isRevokedLater h43) (by decide) (by decide) rfl (Nat.le_of_ble_eq_true rfl) dX1_applySome_60 rfl ?_
        refine zx_if_ne C 88 dX1_applySome_63 (by decide) (fun c44 => ?_) (fun c44 => ?_)
        · replace hm := in_e hm c44
          exact zx_lv [0, 1, 2, 3, 4] [(0, .ref (x0)), (1, .int (x1)), (2, .int (x2)), (3, va_rf (some (o20))), (4, .int (x4))] rfl (j_X1_applySome_88 C htab hin hrc7 hrc41   hm)
        · replace hm := ip_e hm c44
          refine zx_aload_n C dX1_applySome_66 0 rfl ?_
          obtain ⟨k46, i47, hm⟩ := ckO_e hm
          obtain ⟨a48, h49, hm⟩ := osm_e hm
          refine zx_get (j := 0) C tC_1 k46 i47 ⟨by decide, Or.inl W_1_180⟩ dX1_applySome_67 (.ref a48) (rf_s h49) ?_
          refine zx_aload_n C dX1_applySome_70 0 rfl ?_
          obtain ⟨a50, h51, hm⟩ := osm_e hm
          refine zx_get (j := 1) C tC_1 k46 i47 ⟨by decide, Or.inl W_1_181⟩ dX1_applySome_71 (.ref a50) (rf_s h51) ?_
          refine zx_aload_n C dX1_applySome_74 3 rfl ?_
          obtain ⟨k52, i53, hm⟩ := ckO_e hm
          obtain ⟨a54, h55, hm⟩ := osm_e hm
          refine zx_get (j := 4) C tC_7 k52 i53 ⟨by decide, Or.inr ⟨_, W_4_30⟩⟩ dX1_applySome_75 (.ref a54) (rf_s h55) ?_
          refine zx_iload C dX1_applySome_78 4 rfl ?_
          obtain ⟨n58, k56, i57, hm⟩ := ckR_e hm
          obtain ⟨h59, hm⟩ := ckI_e hm
          refine zx_iald C k56 i57 h59 dX1_applySome_80 ?_
          obtain ⟨k60, i61, hm⟩ := ckO_e hm
          obtain ⟨v62, ρ63, h64, hm⟩ := cll_e hm
          refine zx_callV (σ := ρ42) C [.int (tI (ρ42) (a54) ((x4).toNatClampNeg))] tC_5 k60 i61 Y_X5_numberOf W_4_5 W_4_6 W_4_7 (c_X5_numberOf h64) (by decide) (by decide) rfl (Nat.le_of_ble_eq_true rfl) dX1_applySome_81 rfl ?_
          refine zx_iconst (v := 0) C dX1_applySome_84 (by decide) ?_
          obtain ⟨k65, i66, hm⟩ := ckO_e hm
          rcases clx_e hm with ⟨v67, ρ68, h69, hm⟩ | ⟨ρ68, h69, hm⟩
          · refine zx_callV (σ := ρ63) C [.int (v62), .int (0)] tC_0 k65 i66 Y_X0_put W_3_228 W_3_229 W_3_230 (c_X0_put h69) (by decide) (by decide) rfl (Nat.le_of_ble_eq_true rfl) dX1_applySome_85 rfl ?_
            exact zx_lv [0, 1, 2, 3, 4] [(0, .ref (x0)), (1, .int (x1)), (2, .int (x2)), (3, va_rf (some (o20))), (4, .int (x4))] rfl (j_X1_applySome_88 C htab hin hrc7 hrc41   hm)
          · cases hm
            exact zx_outV (σ := ρ63) C htab [.int (v62), .int (0)] tC_0 k65 i66 Y_X0_put W_3_228 W_3_229 W_3_230 (c_X0_put h69) rfl (by decide) (by decide) rfl (Nat.le_of_ble_eq_true rfl) dX1_applySome_85 rfl
    · refine zx_lv [0, 1, 2, 3, 4] [(0, .ref (x0)), (1, .int (x1)), (2, .int (x2)), (3, .null), (4, .int (x4))] (by rw [h21]; rfl) ?_
      refine zx_aload_nN C dX1_applySome_43 3 rfl ?_
      cases hm
set_option maxRecDepth 100000 in
set_option maxHeartbeats 1000000 in
theorem l_X1_applySome_7 {p : Program} {l : Launch} {e : Env} {s : State} {m : MethodId} {args : Array Value} {below : List Frame} {meth : Method} {c : Code} {D : va_G} {aC : Nat → ClassId} {b0 fu : Nat} {σ0 τ : tM} {v : (Int32) ⊕ Unit}  (C : tCx p l s m args meth c yX1_applySome.cls cX1_applySome 5 (some .int) D aC b0 σ0) (htab : ∀ x ∈ c.exceptionTable.toList, False) (hin : meth.name = yX1_applySome.name)  : ∀ (n : Nat) (x0 : Nat) (x1 : Int32) (x2 : Int32) (x3 : Option Nat) (σ : tM), L_X1_applySome_7 b0 fu  n x0 x1 x2 x3 σ = some (v, τ) → tX p l e s m args below meth c 5 8 133 D aC b0 σ0 (rxI "java/lang/IllegalStateException" v) τ 7 [(0, .ref (x0)), (1, .int (x1)), (2, .int (x2)), (3, va_rf (x3))] [] σ := by
  intro n
  induction n with
  | zero => intro x0 x1 x2 x3 σ hm; unfold L_X1_applySome_7 at hm; cases hm
  | succ n ih =>
    intro x0 x1 x2 x3 σ hm
    unfold L_X1_applySome_7 at hm
    obtain ⟨rc7, hrc⟩ : ∃ z, z = L_X1_applySome_7 b0 fu  n := ⟨_, rfl⟩
    replace hm := ltb_e hm hrc
    rw [← hrc] at ih
    have hrc7 := ih
    clear ih hrc
    rcases omt_e hm with ⟨o5, h6, hm⟩ | ⟨h6, hm⟩
    · refine zx_lv [0, 1, 2, 3] [(0, .ref (x0)), (1, .int (x1)), (2, .int (x2)), (3, .ref (o5))] (by rw [h6]; rfl) ?_
      refine zx_aload_n C dX1_applySome_7 3 rfl ?_
      refine zx_ifnull C dX1_applySome_8 ?_
      refine zx_aload_n C dX1_applySome_11 3 rfl ?_
      obtain ⟨k7, i8, hm⟩ := ckO_e hm
      refine zx_get (j := 0) C tC_7 k7 i8 ⟨by decide, Or.inr ⟨_, W_4_22⟩⟩ dX1_applySome_12 (.int (tI (σ) (o5) 0)) rfl ?_
      refine zx_aload_n C dX1_applySome_15 0 rfl ?_
      obtain ⟨k9, i10, hm⟩ := ckO_e hm
      refine zx_get (j := 13) C tC_1 k9 i10 ⟨by decide, Or.inl W_1_193⟩ dX1_applySome_16 (.int (tI (σ) (x0) 13)) rfl ?_
      refine zx_icmp_gt C 113 dX1_applySome_19 (by decide) (fun c11 => ?_) (fun c11 => ?_)
      · replace hm := ip_e hm c11
        exact zx_lv [2] [(2, .int (x2))] rfl (j_X1_applySome_113 C htab hin    hm)
      · replace hm := in_e hm c11
        refine zx_iload_n C dX1_applySome_22 2 rfl ?_
        refine zx_iload_n C dX1_applySome_23 1 rfl ?_
        refine zx_icmp_ge C 113 dX1_applySome_24 (by decide) (fun c12 => ?_) (fun c12 => ?_)
        · replace hm := ip_e hm c12
          exact zx_lv [2] [(2, .int (x2))] rfl (j_X1_applySome_113 C htab hin    hm)
        · replace hm := in_e hm c12
          refine zx_aload_n C dX1_applySome_27 3 rfl ?_
          refine zx_get (j := 0) C tC_7 k7 i8 ⟨by decide, Or.inr ⟨_, W_4_22⟩⟩ dX1_applySome_28 (.int (tI (σ) (o5) 0)) rfl ?_
          refine zx_aload_n C dX1_applySome_31 0 rfl ?_
          refine zx_get (j := 14) C tC_1 k9 i10 ⟨by decide, Or.inl W_1_194⟩ dX1_applySome_32 (.int (tI (σ) (x0) 14)) rfl ?_
          refine zx_icmp_le C 105 dX1_applySome_35 (by decide) (fun c13 => ?_) (fun c13 => ?_)
          · replace hm := ip_e hm c13
            exact zx_lv [0, 1, 2, 3] [(0, .ref (x0)), (1, .int (x1)), (2, .int (x2)), (3, va_rf (some (o5)))] rfl (j_X1_applySome_105 C htab hin hrc7   hm)
          · replace hm := in_e hm c13
            refine zx_iconst (v := 0) C dX1_applySome_38 (by decide) ?_
            refine zx_istore C [(4, .int (0)), (0, .ref (x0)), (1, .int (x1)), (2, .int (x2)), (3, .ref (o5))] dX1_applySome_39 (by decide) rfl ?_
            exact zx_lv [1, 2, 3, 4, 0] [(0, .ref (x0)), (1, .int (x1)), (2, .int (x2)), (3, va_rf (some (o5))), (4, .int (0))] rfl (l_X1_applySome_41 C htab hin hrc7 _ _ _ _ _ _ _ hm)
    · refine zx_lv [0, 1, 2, 3] [(0, .ref (x0)), (1, .int (x1)), (2, .int (x2)), (3, .null)] (by rw [h6]; rfl) ?_
      refine zx_aload_nN C dX1_applySome_7 3 rfl ?_
      refine zx_ifnullN C 113 dX1_applySome_8 (by decide) ?_
      exact zx_lv [2] [(2, .int (x2))] rfl (j_X1_applySome_113 C htab hin    hm)
set_option maxRecDepth 100000 in
set_option maxHeartbeats 1000000 in
theorem c_X1_applySome {l : Launch} {D : va_G} {aC : Nat → ClassId} {b0 fu : Nat} {a0 : Nat} {p0 : Int32} {σ τ : tM} {v : (Int32) ⊕ Unit} (hm : m_X1_applySome b0 fu a0 p0 σ = some (v, τ)) : tMt l D aC b0 yX1_applySome (Cond.code yX1_applySome cX1_applySome 5 (some .int)) 8 133 [.ref (a0), .int (p0)] σ (rxI "java/lang/IllegalStateException" v) τ := by
  unfold m_X1_applySome at hm
  obtain ⟨hg, hm⟩ := grw_e hm
  refine tMt_of (n := 0) rfl (Nat.le_of_ble_eq_true rfl) hg ?_
  intro p e s m below meth c C htab hin
  refine zx_lv [0, 1] [(0, .ref (a0)), (1, .int (p0))] rfl ?_
  refine zx_iconst (v := 0) C dX1_applySome_0 (by decide) ?_
  refine zx_istore_n C [(2, .int (0)), (0, .ref (a0)), (1, .int (p0))] dX1_applySome_1 rfl (by decide) rfl ?_
  refine zx_aload_n C dX1_applySome_2 1 rfl ?_
  obtain ⟨k1, i2, hm⟩ := ckO_e hm
  rcases omt_e hm with ⟨a3, h4, hm⟩ | ⟨h4, hm⟩
  · refine zx_get (j := 5) C tC_1 k1 i2 ⟨by decide, Or.inl W_1_185⟩ dX1_applySome_3 (.ref a3) (rf_s h4) ?_
    refine zx_astore_n C [(3, .ref (a3)), (2, .int (0)), (0, .ref (a0)), (1, .int (p0))] dX1_applySome_6 rfl (by decide) rfl ?_
    exact zx_lv [2, 3, 1, 0] [(0, .ref (a0)), (1, .int (p0)), (2, .int (0)), (3, va_rf (some (a3)))] rfl (l_X1_applySome_7 C htab hin  _ _ _ _ _ _ hm)
  · refine zx_get (j := 5) C tC_1 k1 i2 ⟨by decide, Or.inl W_1_185⟩ dX1_applySome_3 .null (rf_n h4) ?_
    refine zx_astore_nN C [(3, .null), (2, .int (0)), (0, .ref (a0)), (1, .int (p0))] dX1_applySome_6 rfl (by decide) rfl ?_
    exact zx_lv [2, 3, 1, 0] [(0, .ref (a0)), (1, .int (p0)), (2, .int (0)), (3, va_rf (none))] rfl (l_X1_applySome_7 C htab hin  _ _ _ _ _ _ hm)
abbrev cX1_replay : ByteArray := prog_3_method_20_code
def yX1_replay : MethodName := ⟨"SyncTree$Journal", "replay", "()I"⟩
theorem Y_X1_replay : tY yX1_replay cX1_replay 4 (some .int) 0 := ⟨W_6_120, W_1_5, ⟨by decide +kernel, by decide +kernel⟩, by decide +kernel⟩
theorem dX1_replay_0 : decode cX1_replay 0 = .ok (.aload_n 0, 1) := by decide +kernel
theorem dX1_replay_1 : decode cX1_replay 1 = .ok (.getfield 21, 3) := by decide +kernel
theorem dX1_replay_4 : decode cX1_replay 4 = .ok (.invokevirtual 209, 3) := by decide +kernel
theorem dX1_replay_7 : decode cX1_replay 7 = .ok (.aload_n 0, 1) := by decide +kernel
theorem dX1_replay_8 : decode cX1_replay 8 = .ok (.getfield 21, 3) := by decide +kernel
theorem dX1_replay_11 : decode cX1_replay 11 = .ok (.iconst 0, 1) := by decide +kernel
theorem dX1_replay_12 : decode cX1_replay 12 = .ok (.invokevirtual 212, 3) := by decide +kernel
theorem dX1_replay_15 : decode cX1_replay 15 = .ok (.istore_n 1, 1) := by decide +kernel
theorem dX1_replay_16 : decode cX1_replay 16 = .ok (.aload_n 0, 1) := by decide +kernel
theorem dX1_replay_17 : decode cX1_replay 17 = .ok (.iload_n 1, 1) := by decide +kernel
theorem dX1_replay_18 : decode cX1_replay 18 = .ok (.invokevirtual 215, 3) := by decide +kernel
theorem dX1_replay_21 : decode cX1_replay 21 = .ok (.istore_n 2, 1) := by decide +kernel
theorem dX1_replay_22 : decode cX1_replay 22 = .ok (.aload_n 0, 1) := by decide +kernel
theorem dX1_replay_23 : decode cX1_replay 23 = .ok (.iload_n 1, 1) := by decide +kernel
theorem dX1_replay_24 : decode cX1_replay 24 = .ok (.iload_n 2, 1) := by decide +kernel
theorem dX1_replay_25 : decode cX1_replay 25 = .ok (.invokevirtual 218, 3) := by decide +kernel
theorem dX1_replay_28 : decode cX1_replay 28 = .ok (.iconst 1, 1) := by decide +kernel
theorem dX1_replay_29 : decode cX1_replay 29 = .ok (.istore_n 3, 1) := by decide +kernel
theorem dX1_replay_30 : decode cX1_replay 30 = .ok (.iload_n 3, 1) := by decide +kernel
theorem dX1_replay_31 : decode cX1_replay 31 = .ok (.aload_n 0, 1) := by decide +kernel
theorem dX1_replay_32 : decode cX1_replay 32 = .ok (.getfield 25, 3) := by decide +kernel
theorem dX1_replay_35 : decode cX1_replay 35 = .ok (.getfield 36, 3) := by decide +kernel
theorem dX1_replay_38 : decode cX1_replay 38 = .ok (.if_icmp .ge 34, 3) := by decide +kernel
theorem dX1_replay_41 : decode cX1_replay 41 = .ok (.aload_n 0, 1) := by decide +kernel
theorem dX1_replay_42 : decode cX1_replay 42 = .ok (.getfield 17, 3) := by decide +kernel
theorem dX1_replay_45 : decode cX1_replay 45 = .ok (.iload_n 3, 1) := by decide +kernel
theorem dX1_replay_46 : decode cX1_replay 46 = .ok (.baload, 1) := by decide +kernel
theorem dX1_replay_47 : decode cX1_replay 47 = .ok (.ifCond .eq 19, 3) := by decide +kernel
theorem dX1_replay_50 : decode cX1_replay 50 = .ok (.aload_n 0, 1) := by decide +kernel
theorem dX1_replay_51 : decode cX1_replay 51 = .ok (.getfield 21, 3) := by decide +kernel
theorem dX1_replay_54 : decode cX1_replay 54 = .ok (.aload_n 0, 1) := by decide +kernel
theorem dX1_replay_55 : decode cX1_replay 55 = .ok (.getfield 25, 3) := by decide +kernel
theorem dX1_replay_58 : decode cX1_replay 58 = .ok (.iload_n 3, 1) := by decide +kernel
theorem dX1_replay_59 : decode cX1_replay 59 = .ok (.invokevirtual 203, 3) := by decide +kernel
theorem dX1_replay_62 : decode cX1_replay 62 = .ok (.iconst 0, 1) := by decide +kernel
theorem dX1_replay_63 : decode cX1_replay 63 = .ok (.invokevirtual 126, 3) := by decide +kernel
theorem dX1_replay_66 : decode cX1_replay 66 = .ok (.iinc 3 1, 3) := by decide +kernel
theorem dX1_replay_69 : decode cX1_replay 69 = .ok (.goto (-39), 3) := by decide +kernel
theorem dX1_replay_72 : decode cX1_replay 72 = .ok (.aload_n 0, 1) := by decide +kernel
theorem dX1_replay_73 : decode cX1_replay 73 = .ok (.getfield 21, 3) := by decide +kernel
theorem dX1_replay_76 : decode cX1_replay 76 = .ok (.invokevirtual 174, 3) := by decide +kernel
theorem dX1_replay_79 : decode cX1_replay 79 = .ok (.aload_n 0, 1) := by decide +kernel
theorem dX1_replay_80 : decode cX1_replay 80 = .ok (.getfield 21, 3) := by decide +kernel
theorem dX1_replay_83 : decode cX1_replay 83 = .ok (.iconst 0, 1) := by decide +kernel
theorem dX1_replay_84 : decode cX1_replay 84 = .ok (.iload_n 2, 1) := by decide +kernel
theorem dX1_replay_85 : decode cX1_replay 85 = .ok (.invokevirtual 126, 3) := by decide +kernel
theorem dX1_replay_88 : decode cX1_replay 88 = .ok (.aload_n 0, 1) := by decide +kernel
theorem dX1_replay_89 : decode cX1_replay 89 = .ok (.getfield 21, 3) := by decide +kernel
theorem dX1_replay_92 : decode cX1_replay 92 = .ok (.invokevirtual 174, 3) := by decide +kernel
theorem dX1_replay_95 : decode cX1_replay 95 = .ok (.aload_n 0, 1) := by decide +kernel
theorem dX1_replay_96 : decode cX1_replay 96 = .ok (.iload_n 2, 1) := by decide +kernel
theorem dX1_replay_97 : decode cX1_replay 97 = .ok (.invokevirtual 180, 3) := by decide +kernel
theorem dX1_replay_100 : decode cX1_replay 100 = .ok (.aload_n 0, 1) := by decide +kernel
theorem dX1_replay_101 : decode cX1_replay 101 = .ok (.invokevirtual 33, 3) := by decide +kernel
theorem dX1_replay_104 : decode cX1_replay 104 = .ok (.aload_n 0, 1) := by decide +kernel
theorem dX1_replay_105 : decode cX1_replay 105 = .ok (.iload_n 2, 1) := by decide +kernel
theorem dX1_replay_106 : decode cX1_replay 106 = .ok (.invokevirtual 55, 3) := by decide +kernel
theorem dX1_replay_109 : decode cX1_replay 109 = .ok (.iload_n 2, 1) := by decide +kernel
theorem dX1_replay_110 : decode cX1_replay 110 = .ok (.iload_n 1, 1) := by decide +kernel
theorem dX1_replay_111 : decode cX1_replay 111 = .ok (.isub, 1) := by decide +kernel
theorem dX1_replay_112 : decode cX1_replay 112 = .ok (.ireturn, 1) := by decide +kernel
set_option maxRecDepth 100000 in
set_option maxHeartbeats 1000000 in
theorem j_X1_replay_66 {p : Program} {l : Launch} {e : Env} {s : State} {m : MethodId} {args : Array Value} {below : List Frame} {meth : Method} {c : Code} {D : va_G} {aC : Nat → ClassId} {b0 fu : Nat} {σ0 τ : tM} {v : (Int32) ⊕ Unit} {rc30 : Nat → Int32 → Int32 → Int32 → tM → Option (((Int32) ⊕ Unit) × tM)} (C : tCx p l s m args meth c yX1_replay.cls cX1_replay 4 (some .int) D aC b0 σ0) (htab : ∀ x ∈ c.exceptionTable.toList, False) (hin : meth.name = yX1_replay.name) (hrc30 : ∀ (x0 : Nat) (x1 : Int32) (x2 : Int32) (x3 : Int32) (ρ : tM), rc30 x0 x1 x2 x3 ρ = some (v, τ) → tX p l e s m args below meth c 4 8 133 D aC b0 σ0 (rxI "java/lang/IllegalStateException" v) τ 30 [(0, .ref (x0)), (1, .int (x1)), (2, .int (x2)), (3, .int (x3))] [] ρ) {x0 : Nat} {x1 : Int32} {x2 : Int32} {x3 : Int32} {σ : tM} (hm : J_X1_replay_66 b0 fu rc30 x0 x1 x2 x3 σ = some (v, τ)) : tX p l e s m args below meth c 4 8 133 D aC b0 σ0 (rxI "java/lang/IllegalStateException" v) τ 66 [(0, .ref (x0)), (1, .int (x1)), (2, .int (x2)), (3, .int (x3))] [] σ := by
  unfold J_X1_replay_66 at hm
  obtain ⟨y86, hy86⟩ : ∃ z : Int32, z = (x3) + Int32.ofInt 1 := ⟨_, rfl⟩
  replace hm := ltb_e hm hy86
  refine zx_iinc C [(3, .int (y86)), (0, .ref (x0)), (1, .int (x1)), (2, .int (x2))] dX1_replay_66 3 rfl hy86.symm (by decide) rfl ?_
  refine zx_goto C 30 dX1_replay_69 (by decide) ?_
  exact zx_lv [1, 2, 3, 0] [(0, .ref (x0)), (1, .int (x1)), (2, .int (x2)), (3, .int (y86))] rfl (hrc30 _ _ _ _ _ hm)
set_option maxRecDepth 100000 in
set_option maxHeartbeats 1000000 in
theorem l_X1_replay_30 {p : Program} {l : Launch} {e : Env} {s : State} {m : MethodId} {args : Array Value} {below : List Frame} {meth : Method} {c : Code} {D : va_G} {aC : Nat → ClassId} {b0 fu : Nat} {σ0 τ : tM} {v : (Int32) ⊕ Unit}  (C : tCx p l s m args meth c yX1_replay.cls cX1_replay 4 (some .int) D aC b0 σ0) (htab : ∀ x ∈ c.exceptionTable.toList, False) (hin : meth.name = yX1_replay.name)  : ∀ (n : Nat) (x0 : Nat) (x1 : Int32) (x2 : Int32) (x3 : Int32) (σ : tM), L_X1_replay_30 b0 fu  n x0 x1 x2 x3 σ = some (v, τ) → tX p l e s m args below meth c 4 8 133 D aC b0 σ0 (rxI "java/lang/IllegalStateException" v) τ 30 [(0, .ref (x0)), (1, .int (x1)), (2, .int (x2)), (3, .int (x3))] [] σ := by
  intro n
  induction n with
  | zero => intro x0 x1 x2 x3 σ hm; unfold L_X1_replay_30 at hm; cases hm
  | succ n ih =>
    intro x0 x1 x2 x3 σ hm
    unfold L_X1_replay_30 at hm
    obtain ⟨rc30, hrc⟩ : ∃ z, z = L_X1_replay_30 b0 fu  n := ⟨_, rfl⟩
    replace hm := ltb_e hm hrc
    rw [← hrc] at ih
    have hrc30 := ih
    clear ih hrc
    refine zx_iload_n C dX1_replay_30 3 rfl ?_
    refine zx_aload_n C dX1_replay_31 0 rfl ?_
    obtain ⟨k29, i30, hm⟩ := ckO_e hm
    obtain ⟨a31, h32, hm⟩ := osm_e hm
    refine zx_get (j := 1) C tC_1 k29 i30 ⟨by decide, Or.inl W_1_181⟩ dX1_replay_32 (.ref a31) (rf_s h32) ?_
    obtain ⟨k33, i34, hm⟩ := ckO_e hm
    refine zx_get (j := 7) C tC_5 k33 i34 ⟨by decide, Or.inr ⟨_, W_1_103⟩⟩ dX1_replay_35 (.int (tI (σ) (a31) 7)) rfl ?_
    refine zx_icmp_ge C 72 dX1_replay_38 (by decide) (fun c35 => ?_) (fun c35 => ?_)
    · replace hm := ip_e hm c35
      refine zx_aload_n C dX1_replay_72 0 rfl ?_
      obtain ⟨a36, h37, hm⟩ := osm_e hm
      refine zx_get (j := 0) C tC_1 k29 i30 ⟨by decide, Or.inl W_1_180⟩ dX1_replay_73 (.ref a36) (rf_s h37) ?_
      obtain ⟨k38, i39, hm⟩ := ckO_e hm
      rcases clx_e hm with ⟨v40, ρ41, h42, hm⟩ | ⟨ρ41, h42, hm⟩
      · refine zx_callV (σ := σ) C [] tC_0 k38 i39 Y_X0_flushCache W_3_195 W_3_196 W_3_197 (c_X0_flushCache h42) (by decide) (by decide) rfl (Nat.le_of_ble_eq_true rfl) dX1_replay_76 rfl ?_
        refine zx_aload_n C dX1_replay_79 0 rfl ?_
        obtain ⟨k43, i44, hm⟩ := ckO_e hm
        obtain ⟨a45, h46, hm⟩ := osm_e hm
        refine zx_get (j := 0) C tC_1 k43 i44 ⟨by decide, Or.inl W_1_180⟩ dX1_replay_80 (.ref a45) (rf_s h46) ?_
        refine zx_iconst (v := 0) C dX1_replay_83 (by decide) ?_
        refine zx_iload_n C dX1_replay_84 2 rfl ?_
        obtain ⟨k47, i48, hm⟩ := ckO_e hm
        rcases clx_e hm with ⟨v49, ρ50, h51, hm⟩ | ⟨ρ50, h51, hm⟩
        · refine zx_callV (σ := ρ41) C [.int (0), .int (x2)] tC_0 k47 i48 Y_X0_put W_3_228 W_3_229 W_3_230 (c_X0_put h51) (by decide) (by decide) rfl (Nat.le_of_ble_eq_true rfl) dX1_replay_85 rfl ?_
          refine zx_aload_n C dX1_replay_88 0 rfl ?_
          obtain ⟨k52, i53, hm⟩ := ckO_e hm
          obtain ⟨a54, h55, hm⟩ := osm_e hm
          refine zx_get (j := 0) C tC_1 k52 i53 ⟨by decide, Or.inl W_1_180⟩ dX1_replay_89 (.ref a54) (rf_s h55) ?_
          obtain ⟨k56, i57, hm⟩ := ckO_e hm
          rcases clx_e hm with ⟨v58, ρ59, h60, hm⟩ | ⟨ρ59, h60, hm⟩
          · refine zx_callV (σ := ρ50) C [] tC_0 k56 i57 Y_X0_flushCache W_3_195 W_3_196 W_3_197 (c_X0_flushCache h60) (by decide) (by decide) rfl (Nat.le_of_ble_eq_true rfl) dX1_replay_92 rfl ?_
            refine zx_aload_n C dX1_replay_95 0 rfl ?_
            refine zx_iload_n C dX1_replay_96 2 rfl ?_
            obtain ⟨k61, i62, hm⟩ := ckO_e hm
            obtain ⟨v63, ρ64, h65, hm⟩ := cll_e hm
            refine zx_callV (σ := ρ59) C [.int (x2)] tC_1 k61 i62 Y_X1_fold W_3_220 W_3_222 Wp_15 (c_X1_fold h65) (by decide) (by decide) rfl (Nat.le_of_ble_eq_true rfl) dX1_replay_97 rfl ?_
            refine zx_aload_n C dX1_replay_100 0 rfl ?_
            obtain ⟨k66, i67, hm⟩ := ckO_e hm
            obtain ⟨v68, ρ69, h70, hm⟩ := cll_e hm
            refine zx_callV (σ := ρ64) C [] tC_1 k66 i67 Y_X1_dropAll W_2_89 W_2_91 Wp_1 (c_X1_dropAll h70) (by decide) (by decide) rfl (Nat.le_of_ble_eq_true rfl) dX1_replay_101 rfl ?_
            refine zx_aload_n C dX1_replay_104 0 rfl ?_
            refine zx_iload_n C dX1_replay_105 2 rfl ?_
            obtain ⟨k71, i72, hm⟩ := ckO_e hm
            obtain ⟨v73, ρ74, h75, hm⟩ := cll_e hm
            refine zx_callV (σ := ρ69) C [.int (x2)] tC_1 k71 i72 Y_X1_restart W_2_168 W_2_170 Wp_8 (c_X1_restart h75) (by decide) (by decide) rfl (Nat.le_of_ble_eq_true rfl) dX1_replay_106 rfl ?_
            refine zx_iload_n C dX1_replay_109 2 rfl ?_
            refine zx_iload_n C dX1_replay_110 1 rfl ?_
            refine zx_isub C dX1_replay_111 ?_
            obtain ⟨rfl, rfl⟩ := ret_e hm
            exact zx_iret C rfl rfl rfl dX1_replay_112
          · cases hm
            exact zx_outV (σ := ρ50) C htab [] tC_0 k56 i57 Y_X0_flushCache W_3_195 W_3_196 W_3_197 (c_X0_flushCache h60) rfl (by decide) (by decide) rfl (Nat.le_of_ble_eq_true rfl) dX1_replay_92 rfl
        · cases hm
          exact zx_outV (σ := ρ41) C htab [.int (0), .int (x2)] tC_0 k47 i48 Y_X0_put W_3_228 W_3_229 W_3_230 (c_X0_put h51) rfl (by decide) (by decide) rfl (Nat.le_of_ble_eq_true rfl) dX1_replay_85 rfl
      · cases hm
        exact zx_outV (σ := σ) C htab [] tC_0 k38 i39 Y_X0_flushCache W_3_195 W_3_196 W_3_197 (c_X0_flushCache h42) rfl (by decide) (by decide) rfl (Nat.le_of_ble_eq_true rfl) dX1_replay_76 rfl
    · replace hm := in_e hm c35
      refine zx_aload_n C dX1_replay_41 0 rfl ?_
      obtain ⟨a79, h80, hm⟩ := osm_e hm
      refine zx_get (j := 4) C tC_1 k29 i30 ⟨by decide, Or.inl W_1_184⟩ dX1_replay_42 (.ref a79) (rf_s h80) ?_
      refine zx_iload_n C dX1_replay_45 3 rfl ?_
      obtain ⟨n83, k81, i82, hm⟩ := ckR_e hm
      obtain ⟨h84, hm⟩ := ckI_e hm
      refine zx_bald C k81 i82 h84 dX1_replay_46 ?_
      refine zx_if_eq C 66 dX1_replay_47 (by decide) (fun c85 => ?_) (fun c85 => ?_)
      · replace hm := ip_e hm c85
        exact zx_lv [0, 1, 2, 3] [(0, .ref (x0)), (1, .int (x1)), (2, .int (x2)), (3, .int (x3))] rfl (j_X1_replay_66 C htab hin hrc30   hm)
      · replace hm := in_e hm c85
        refine zx_aload_n C dX1_replay_50 0 rfl ?_
        obtain ⟨a87, h88, hm⟩ := osm_e hm
        refine zx_get (j := 0) C tC_1 k29 i30 ⟨by decide, Or.inl W_1_180⟩ dX1_replay_51 (.ref a87) (rf_s h88) ?_
        refine zx_aload_n C dX1_replay_54 0 rfl ?_
        obtain ⟨a89, h90, hm⟩ := osm_e hm
        refine zx_get (j := 1) C tC_1 k29 i30 ⟨by decide, Or.inl W_1_181⟩ dX1_replay_55 (.ref a89) (rf_s h90) ?_
        refine zx_iload_n C dX1_replay_58 3 rfl ?_
        obtain ⟨k91, i92, hm⟩ := ckO_e hm
        obtain ⟨v93, ρ94, h95, hm⟩ := cll_e hm
        refine zx_callV (σ := σ) C [.int (x3)] tC_5 k91 i92 Y_X5_numberOf W_4_5 W_4_6 W_4_7 (c_X5_numberOf h95) (by decide) (by decide) rfl (Nat.le_of_ble_eq_true rfl) dX1_replay_59 rfl ?_
        refine zx_iconst (v := 0) C dX1_replay_62 (by decide) ?_
        obtain ⟨k96, i97, hm⟩ := ckO_e hm
        rcases clx_e hm with ⟨v98, ρ99, h100, hm⟩ | ⟨ρ99, h100, hm⟩
        · refine zx_callV (σ := ρ94) C [.int (v93), .int (0)] tC_0 k96 i97 Y_X0_put W_3_228 W_3_229 W_3_230 (c_X0_put h100) (by decide) (by decide) rfl (Nat.le_of_ble_eq_true rfl) dX1_replay_63 rfl ?_
          exact zx_lv [0, 1, 2, 3] [(0, .ref (x0)), (1, .int (x1)), (2, .int (x2)), (3, .int (x3))] rfl (j_X1_replay_66 C htab hin hrc30   hm)
        · cases hm
          exact zx_outV (σ := ρ94) C htab [.int (v93), .int (0)] tC_0 k96 i97 Y_X0_put W_3_228 W_3_229 W_3_230 (c_X0_put h100) rfl (by decide) (by decide) rfl (Nat.le_of_ble_eq_true rfl) dX1_replay_63 rfl
set_option maxRecDepth 100000 in
set_option maxHeartbeats 1000000 in
theorem c_X1_replay {l : Launch} {D : va_G} {aC : Nat → ClassId} {b0 fu : Nat} {a0 : Nat} {σ τ : tM} {v : (Int32) ⊕ Unit} (hm : m_X1_replay b0 fu a0 σ = some (v, τ)) : tMt l D aC b0 yX1_replay (Cond.code yX1_replay cX1_replay 4 (some .int)) 8 133 [.ref (a0)] σ (rxI "java/lang/IllegalStateException" v) τ := by
  unfold m_X1_replay at hm
  obtain ⟨hg, hm⟩ := grw_e hm
  refine tMt_of (n := 0) rfl (Nat.le_of_ble_eq_true rfl) hg ?_
  intro p e s m below meth c C htab hin
  refine zx_lv [0] [(0, .ref (a0))] rfl ?_
  refine zx_aload_n C dX1_replay_0 0 rfl ?_
  obtain ⟨k1, i2, hm⟩ := ckO_e hm
  obtain ⟨a3, h4, hm⟩ := osm_e hm
  refine zx_get (j := 0) C tC_1 k1 i2 ⟨by decide, Or.inl W_1_180⟩ dX1_replay_1 (.ref a3) (rf_s h4) ?_
  obtain ⟨k5, i6, hm⟩ := ckO_e hm
  obtain ⟨v7, ρ8, h9, hm⟩ := cll_e hm
  refine zx_callV (σ := σ) C [] tC_0 k5 i6 Y_X0_settle W_6_121 W_6_122 W_6_123 (c_X0_settle h9) (by decide) (by decide) rfl (Nat.le_of_ble_eq_true rfl) dX1_replay_4 rfl ?_
  refine zx_aload_n C dX1_replay_7 0 rfl ?_
  obtain ⟨k10, i11, hm⟩ := ckO_e hm
  obtain ⟨a12, h13, hm⟩ := osm_e hm
  refine zx_get (j := 0) C tC_1 k10 i11 ⟨by decide, Or.inl W_1_180⟩ dX1_replay_8 (.ref a12) (rf_s h13) ?_
  refine zx_iconst (v := 0) C dX1_replay_11 (by decide) ?_
  obtain ⟨k14, i15, hm⟩ := ckO_e hm
  obtain ⟨v16, ρ17, h18, hm⟩ := cll_e hm
  refine zx_callV (σ := ρ8) C [.int (0)] tC_0 k14 i15 Y_X0_tagOf W_6_125 W_6_126 W_6_127 (c_X0_tagOf h18) (by decide) (by decide) rfl (Nat.le_of_ble_eq_true rfl) dX1_replay_12 rfl ?_
  refine zx_istore_n C [(1, .int (v16)), (0, .ref (a0))] dX1_replay_15 rfl (by decide) rfl ?_
  refine zx_aload_n C dX1_replay_16 1 rfl ?_
  refine zx_iload_n C dX1_replay_17 0 rfl ?_
  obtain ⟨k19, i20, hm⟩ := ckO_e hm
  obtain ⟨v21, ρ22, h23, hm⟩ := cll_e hm
  refine zx_callV (σ := ρ17) C [.int (v16)] tC_1 k19 i20 Y_X1_lastWhole W_6_129 W_6_131 Wp_46 (c_X1_lastWhole h23) (by decide) (by decide) rfl (Nat.le_of_ble_eq_true rfl) dX1_replay_18 rfl ?_
  refine zx_istore_n C [(2, .int (v21)), (1, .int (v16)), (0, .ref (a0))] dX1_replay_21 rfl (by decide) rfl ?_
  refine zx_aload_n C dX1_replay_22 2 rfl ?_
  refine zx_iload_n C dX1_replay_23 1 rfl ?_
  refine zx_iload_n C dX1_replay_24 0 rfl ?_
  obtain ⟨k24, i25, hm⟩ := ckO_e hm
  obtain ⟨v26, ρ27, h28, hm⟩ := cll_e hm
  refine zx_callV (σ := ρ22) C [.int (v16), .int (v21)] tC_1 k24 i25 Y_X1_markReplayed W_6_137 W_6_139 Wp_48 (c_X1_markReplayed h28) (by decide) (by decide) rfl (Nat.le_of_ble_eq_true rfl) dX1_replay_25 rfl ?_
  refine zx_iconst (v := 1) C dX1_replay_28 (by decide) ?_
  refine zx_istore_n C [(3, .int (1)), (2, .int (v21)), (1, .int (v16)), (0, .ref (a0))] dX1_replay_29 rfl (by decide) rfl ?_
  exact zx_lv [3, 2, 1, 0] [(0, .ref (a0)), (1, .int (v16)), (2, .int (v21)), (3, .int (1))] rfl (l_X1_replay_30 C htab hin  _ _ _ _ _ _ hm)
