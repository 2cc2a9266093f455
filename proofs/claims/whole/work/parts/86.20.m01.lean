abbrev cX1_giveRow : ByteArray := prog_3_method_6_code
def yX1_giveRow : MethodName := ⟨"SyncTree$Journal", "giveRow", "(LSyncTree$Row;)V"⟩
theorem Y_X1_giveRow : tY yX1_giveRow cX1_giveRow 2 none 1 := ⟨W_2_96, W_1_5, ⟨by decide +kernel, by decide +kernel⟩, by decide +kernel⟩
theorem dX1_giveRow_0 : decode cX1_giveRow 0 = .ok (.aload_n 1, 1) := by decide +kernel
theorem dX1_giveRow_1 : decode cX1_giveRow 1 = .ok (.ifnull 16, 3) := by decide +kernel
theorem dX1_giveRow_4 : decode cX1_giveRow 4 = .ok (.aload_n 1, 1) := by decide +kernel
theorem dX1_giveRow_5 : decode cX1_giveRow 5 = .ok (.aload_n 0, 1) := by decide +kernel
theorem dX1_giveRow_6 : decode cX1_giveRow 6 = .ok (.getfield 95, 3) := by decide +kernel
theorem dX1_giveRow_9 : decode cX1_giveRow 9 = .ok (.putfield 100, 3) := by decide +kernel
theorem dX1_giveRow_12 : decode cX1_giveRow 12 = .ok (.aload_n 0, 1) := by decide +kernel
theorem dX1_giveRow_13 : decode cX1_giveRow 13 = .ok (.aload_n 1, 1) := by decide +kernel
theorem dX1_giveRow_14 : decode cX1_giveRow 14 = .ok (.putfield 95, 3) := by decide +kernel
theorem dX1_giveRow_17 : decode cX1_giveRow 17 = .ok (.return_, 1) := by decide +kernel
set_option maxRecDepth 100000 in
set_option maxHeartbeats 1000000 in
theorem j_X1_giveRow_17 {p : Program} {l : Launch} {e : Env} {s : State} {m : MethodId} {args : Array Value} {below : List Frame} {meth : Method} {c : Code} {D : va_G} {aC : Nat → ClassId} {b0 fu : Nat} {σ0 τ : tM} {v : Unit}  (C : tCx p l s m args meth c yX1_giveRow.cls cX1_giveRow 2 none D aC b0 σ0) (htab : ∀ x ∈ c.exceptionTable.toList, False) (hin : meth.name = yX1_giveRow.name)   {σ : tM} (hm : J_X1_giveRow_17 b0 fu   σ = some (v, τ)) : tX p l e s m args below meth c 2 0 0 D aC b0 σ0 (.inl none) τ 17 [] [] σ := by
  unfold J_X1_giveRow_17 at hm
  obtain ⟨rfl, rfl⟩ := ret_e hm
  exact zx_vret C rfl rfl rfl dX1_giveRow_17
set_option maxRecDepth 100000 in
set_option maxHeartbeats 1000000 in
theorem c_X1_giveRow {l : Launch} {D : va_G} {aC : Nat → ClassId} {b0 fu : Nat} {a0 : Nat} {p0 : Option Nat} {σ τ : tM} {v : Unit} (hm : m_X1_giveRow b0 fu a0 p0 σ = some (v, τ)) : tMt l D aC b0 yX1_giveRow (Cond.code yX1_giveRow cX1_giveRow 2 none) 0 0 [.ref (a0), va_rf (p0)] σ (.inl none) τ := by
  unfold m_X1_giveRow at hm
  obtain ⟨hg, hm⟩ := grw_e hm
  refine tMt_of (n := 0) rfl (by cases p0 <;> exact Nat.le_of_ble_eq_true rfl) hg ?_
  intro p e s m below meth c C htab hin
  refine zx_lv [0, 1] [(0, .ref (a0)), (1, va_rf (p0))] (by cases p0 <;> rfl) ?_
  rcases omt_e hm with ⟨o1, h2, hm⟩ | ⟨h2, hm⟩
  · refine zx_lv [0, 1] [(0, .ref (a0)), (1, .ref (o1))] (by rw [h2]; rfl) ?_
    refine zx_aload_n C dX1_giveRow_0 1 rfl ?_
    refine zx_ifnull C dX1_giveRow_1 ?_
    refine zx_aload_n C dX1_giveRow_4 1 rfl ?_
    refine zx_aload_n C dX1_giveRow_5 0 rfl ?_
    obtain ⟨k3, i4, hm⟩ := ckO_e hm
    rcases omt_e hm with ⟨a5, h6, hm⟩ | ⟨h6, hm⟩
    · refine zx_get (j := 7) C tC_1 k3 i4 ⟨by decide, Or.inl W_1_187⟩ dX1_giveRow_6 (.ref a5) (rf_s h6) ?_
      obtain ⟨k7, i8, hm⟩ := ckO_e hm
      refine zx_put (j := 1) (ρ := sA (σ) (o1) 1 (some (a5))) C tC_4 k7 i8 ⟨by decide, Or.inr ⟨_, W_2_192⟩⟩ rfl rfl rfl (sA_ok (fun _ => rfl)) dX1_giveRow_9 ?_
      refine zx_aload_n C dX1_giveRow_12 0 rfl ?_
      refine zx_aload_n C dX1_giveRow_13 1 rfl ?_
      refine zx_put (j := 7) (ρ := sA (sA (σ) (o1) 1 (some (a5))) (a0) 7 (some (o1))) C tC_1 k3 i4 ⟨by decide, Or.inl W_1_187⟩ rfl rfl rfl (sA_ok (fun _ => rfl)) dX1_giveRow_14 ?_
      exact zx_lv [] [] rfl (j_X1_giveRow_17 C htab hin    hm)
    · refine zx_get (j := 7) C tC_1 k3 i4 ⟨by decide, Or.inl W_1_187⟩ dX1_giveRow_6 .null (rf_n h6) ?_
      obtain ⟨k9, i10, hm⟩ := ckO_e hm
      refine zx_put (j := 1) (ρ := sA (σ) (o1) 1 (none)) C tC_4 k9 i10 ⟨by decide, Or.inr ⟨_, W_2_192⟩⟩ rfl rfl rfl (sA_ok (fun _ => rfl)) dX1_giveRow_9 ?_
      refine zx_aload_n C dX1_giveRow_12 0 rfl ?_
      refine zx_aload_n C dX1_giveRow_13 1 rfl ?_
      refine zx_put (j := 7) (ρ := sA (sA (σ) (o1) 1 (none)) (a0) 7 (some (o1))) C tC_1 k3 i4 ⟨by decide, Or.inl W_1_187⟩ rfl rfl rfl (sA_ok (fun _ => rfl)) dX1_giveRow_14 ?_
      exact zx_lv [] [] rfl (j_X1_giveRow_17 C htab hin    hm)
  · refine zx_lv [0, 1] [(0, .ref (a0)), (1, .null)] (by rw [h2]; rfl) ?_
    refine zx_aload_nN C dX1_giveRow_0 1 rfl ?_
    refine zx_ifnullN C 17 dX1_giveRow_1 (by decide) ?_
    exact zx_lv [] [] rfl (j_X1_giveRow_17 C htab hin    hm)
abbrev cX1_setBase : ByteArray := prog_3_method_7_code
def yX1_setBase : MethodName := ⟨"SyncTree$Journal", "setBase", "(ILSyncTree$Row;)V"⟩
theorem Y_X1_setBase : tY yX1_setBase cX1_setBase 3 none 2 := ⟨W_2_100, W_1_5, ⟨by decide +kernel, by decide +kernel⟩, by decide +kernel⟩
theorem dX1_setBase_0 : decode cX1_setBase 0 = .ok (.iload_n 1, 1) := by decide +kernel
theorem dX1_setBase_1 : decode cX1_setBase 1 = .ok (.ifCond .lt 27, 3) := by decide +kernel
theorem dX1_setBase_4 : decode cX1_setBase 4 = .ok (.iload_n 1, 1) := by decide +kernel
theorem dX1_setBase_5 : decode cX1_setBase 5 = .ok (.sipush 2034, 3) := by decide +kernel
theorem dX1_setBase_8 : decode cX1_setBase 8 = .ok (.if_icmp .ge 20, 3) := by decide +kernel
theorem dX1_setBase_11 : decode cX1_setBase 11 = .ok (.aload_n 0, 1) := by decide +kernel
theorem dX1_setBase_12 : decode cX1_setBase 12 = .ok (.aload_n 0, 1) := by decide +kernel
theorem dX1_setBase_13 : decode cX1_setBase 13 = .ok (.getfield 11, 3) := by decide +kernel
theorem dX1_setBase_16 : decode cX1_setBase 16 = .ok (.iload_n 1, 1) := by decide +kernel
theorem dX1_setBase_17 : decode cX1_setBase 17 = .ok (.aaload, 1) := by decide +kernel
theorem dX1_setBase_18 : decode cX1_setBase 18 = .ok (.invokevirtual 103, 3) := by decide +kernel
theorem dX1_setBase_21 : decode cX1_setBase 21 = .ok (.aload_n 0, 1) := by decide +kernel
theorem dX1_setBase_22 : decode cX1_setBase 22 = .ok (.getfield 11, 3) := by decide +kernel
theorem dX1_setBase_25 : decode cX1_setBase 25 = .ok (.iload_n 1, 1) := by decide +kernel
theorem dX1_setBase_26 : decode cX1_setBase 26 = .ok (.aload_n 2, 1) := by decide +kernel
theorem dX1_setBase_27 : decode cX1_setBase 27 = .ok (.aastore, 1) := by decide +kernel
theorem dX1_setBase_28 : decode cX1_setBase 28 = .ok (.return_, 1) := by decide +kernel
set_option maxRecDepth 100000 in
set_option maxHeartbeats 1000000 in
theorem j_X1_setBase_28 {p : Program} {l : Launch} {e : Env} {s : State} {m : MethodId} {args : Array Value} {below : List Frame} {meth : Method} {c : Code} {D : va_G} {aC : Nat → ClassId} {b0 fu : Nat} {σ0 τ : tM} {v : Unit}  (C : tCx p l s m args meth c yX1_setBase.cls cX1_setBase 3 none D aC b0 σ0) (htab : ∀ x ∈ c.exceptionTable.toList, False) (hin : meth.name = yX1_setBase.name)   {σ : tM} (hm : J_X1_setBase_28 b0 fu   σ = some (v, τ)) : tX p l e s m args below meth c 3 1 21 D aC b0 σ0 (.inl none) τ 28 [] [] σ := by
  unfold J_X1_setBase_28 at hm
  obtain ⟨rfl, rfl⟩ := ret_e hm
  exact zx_vret C rfl rfl rfl dX1_setBase_28
set_option maxRecDepth 100000 in
set_option maxHeartbeats 1000000 in
theorem c_X1_setBase {l : Launch} {D : va_G} {aC : Nat → ClassId} {b0 fu : Nat} {a0 : Nat} {p0 : Int32} {p1 : Option Nat} {σ τ : tM} {v : Unit} (hm : m_X1_setBase b0 fu a0 p0 p1 σ = some (v, τ)) : tMt l D aC b0 yX1_setBase (Cond.code yX1_setBase cX1_setBase 3 none) 1 21 [.ref (a0), .int (p0), va_rf (p1)] σ (.inl none) τ := by
  unfold m_X1_setBase at hm
  obtain ⟨hg, hm⟩ := grw_e hm
  refine tMt_of (n := 0) rfl (by cases p1 <;> exact Nat.le_of_ble_eq_true rfl) hg ?_
  intro p e s m below meth c C htab hin
  refine zx_lv [0, 1, 2] [(0, .ref (a0)), (1, .int (p0)), (2, va_rf (p1))] (by cases p1 <;> rfl) ?_
  refine zx_iload_n C dX1_setBase_0 1 rfl ?_
  refine zx_if_lt C 28 dX1_setBase_1 (by decide) (fun c1 => ?_) (fun c1 => ?_)
  · replace hm := ip_e hm c1
    exact zx_lv [] [] rfl (j_X1_setBase_28 C htab hin    hm)
  · replace hm := in_e hm c1
    refine zx_iload_n C dX1_setBase_4 1 rfl ?_
    refine zx_sipush (v := 2034) C dX1_setBase_5 (by decide) ?_
    refine zx_icmp_ge C 28 dX1_setBase_8 (by decide) (fun c2 => ?_) (fun c2 => ?_)
    · replace hm := ip_e hm c2
      exact zx_lv [] [] rfl (j_X1_setBase_28 C htab hin    hm)
    · replace hm := in_e hm c2
      refine zx_aload_n C dX1_setBase_11 0 rfl ?_
      refine zx_aload_n C dX1_setBase_12 0 rfl ?_
      obtain ⟨k3, i4, hm⟩ := ckO_e hm
      obtain ⟨a5, h6, hm⟩ := osm_e hm
      refine zx_get (j := 3) C tC_1 k3 i4 ⟨by decide, Or.inl W_1_183⟩ dX1_setBase_13 (.ref a5) (rf_s h6) ?_
      refine zx_iload_n C dX1_setBase_16 1 rfl ?_
      obtain ⟨n9, k7, i8, hm⟩ := ckR_e hm
      obtain ⟨h10, hm⟩ := ckI_e hm
      rcases omt_e hm with ⟨a11, h12, hm⟩ | ⟨h12, hm⟩
      · refine zx_aald C k7 i8 h10 dX1_setBase_17 (.ref a11) (rf_s h12) ?_
        obtain ⟨v13, ρ14, h15, hm⟩ := cll_e hm
        refine zx_callV (σ := σ) C [va_rf (some (a11))] tC_1 k3 i4 Y_X1_giveRow W_2_93 W_2_95 Wp_2 (c_X1_giveRow h15) (by decide) (by decide) rfl (Nat.le_of_ble_eq_true rfl) dX1_setBase_18 rfl ?_
        refine zx_aload_n C dX1_setBase_21 0 rfl ?_
        obtain ⟨k16, i17, hm⟩ := ckO_e hm
        obtain ⟨a18, h19, hm⟩ := osm_e hm
        refine zx_get (j := 3) C tC_1 k16 i17 ⟨by decide, Or.inl W_1_183⟩ dX1_setBase_22 (.ref a18) (rf_s h19) ?_
        refine zx_iload_n C dX1_setBase_25 1 rfl ?_
        rcases omt_e hm with ⟨o20, h21, hm⟩ | ⟨h21, hm⟩
        · refine zx_lv [0, 1, 2] [(0, .ref (a0)), (1, .int (p0)), (2, .ref (o20))] (by rw [h21]; rfl) ?_
          refine zx_aload_n C dX1_setBase_26 2 rfl ?_
          obtain ⟨n24, k22, i23, hm⟩ := ckR_e hm
          obtain ⟨h25, hm⟩ := ckI_e hm
          obtain ⟨k26, i27, hm⟩ := ckO_e hm
          refine zx_ast C k22 i23 k26 i27 h25 dX1_setBase_27 ?_
          exact zx_lv [] [] rfl (j_X1_setBase_28 C htab hin    hm)
        · refine zx_lv [0, 1, 2] [(0, .ref (a0)), (1, .int (p0)), (2, .null)] (by rw [h21]; rfl) ?_
          refine zx_aload_nN C dX1_setBase_26 2 rfl ?_
          obtain ⟨n30, k28, i29, hm⟩ := ckR_e hm
          obtain ⟨h31, hm⟩ := ckI_e hm
          refine zx_astN C k28 i29 h31 dX1_setBase_27 ?_
          exact zx_lv [] [] rfl (j_X1_setBase_28 C htab hin    hm)
      · refine zx_aald C k7 i8 h10 dX1_setBase_17 .null (rf_n h12) ?_
        obtain ⟨v32, ρ33, h34, hm⟩ := cll_e hm
        refine zx_callV (σ := σ) C [va_rf (none)] tC_1 k3 i4 Y_X1_giveRow W_2_93 W_2_95 Wp_2 (c_X1_giveRow h34) (by decide) (by decide) rfl (Nat.le_of_ble_eq_true rfl) dX1_setBase_18 rfl ?_
        refine zx_aload_n C dX1_setBase_21 0 rfl ?_
        obtain ⟨k35, i36, hm⟩ := ckO_e hm
        obtain ⟨a37, h38, hm⟩ := osm_e hm
        refine zx_get (j := 3) C tC_1 k35 i36 ⟨by decide, Or.inl W_1_183⟩ dX1_setBase_22 (.ref a37) (rf_s h38) ?_
        refine zx_iload_n C dX1_setBase_25 1 rfl ?_
        rcases omt_e hm with ⟨o39, h40, hm⟩ | ⟨h40, hm⟩
        · refine zx_lv [0, 1, 2] [(0, .ref (a0)), (1, .int (p0)), (2, .ref (o39))] (by rw [h40]; rfl) ?_
          refine zx_aload_n C dX1_setBase_26 2 rfl ?_
          obtain ⟨n43, k41, i42, hm⟩ := ckR_e hm
          obtain ⟨h44, hm⟩ := ckI_e hm
          obtain ⟨k45, i46, hm⟩ := ckO_e hm
          refine zx_ast C k41 i42 k45 i46 h44 dX1_setBase_27 ?_
          exact zx_lv [] [] rfl (j_X1_setBase_28 C htab hin    hm)
        · refine zx_lv [0, 1, 2] [(0, .ref (a0)), (1, .int (p0)), (2, .null)] (by rw [h40]; rfl) ?_
          refine zx_aload_nN C dX1_setBase_26 2 rfl ?_
          obtain ⟨n49, k47, i48, hm⟩ := ckR_e hm
          obtain ⟨h50, hm⟩ := ckI_e hm
          refine zx_astN C k47 i48 h50 dX1_setBase_27 ?_
          exact zx_lv [] [] rfl (j_X1_setBase_28 C htab hin    hm)
abbrev cX1_baseOf : ByteArray := prog_3_method_8_code
def yX1_baseOf : MethodName := ⟨"SyncTree$Journal", "baseOf", "(I)LSyncTree$Row;"⟩
theorem Y_X1_baseOf : tY yX1_baseOf cX1_baseOf 2 (some (.object "SyncTree$Row")) 1 := ⟨W_6_153, W_1_5, ⟨by decide +kernel, by decide +kernel⟩, by decide +kernel⟩
theorem dX1_baseOf_0 : decode cX1_baseOf 0 = .ok (.iload_n 1, 1) := by decide +kernel
theorem dX1_baseOf_1 : decode cX1_baseOf 1 = .ok (.ifCond .lt 10, 3) := by decide +kernel
theorem dX1_baseOf_4 : decode cX1_baseOf 4 = .ok (.iload_n 1, 1) := by decide +kernel
theorem dX1_baseOf_5 : decode cX1_baseOf 5 = .ok (.sipush 2034, 3) := by decide +kernel
theorem dX1_baseOf_8 : decode cX1_baseOf 8 = .ok (.if_icmp .lt 7, 3) := by decide +kernel
theorem dX1_baseOf_11 : decode cX1_baseOf 11 = .ok (.aconst_null, 1) := by decide +kernel
theorem dX1_baseOf_12 : decode cX1_baseOf 12 = .ok (.goto 9, 3) := by decide +kernel
theorem dX1_baseOf_15 : decode cX1_baseOf 15 = .ok (.aload_n 0, 1) := by decide +kernel
theorem dX1_baseOf_16 : decode cX1_baseOf 16 = .ok (.getfield 11, 3) := by decide +kernel
theorem dX1_baseOf_19 : decode cX1_baseOf 19 = .ok (.iload_n 1, 1) := by decide +kernel
theorem dX1_baseOf_20 : decode cX1_baseOf 20 = .ok (.aaload, 1) := by decide +kernel
theorem dX1_baseOf_21 : decode cX1_baseOf 21 = .ok (.areturn, 1) := by decide +kernel
set_option maxRecDepth 100000 in
set_option maxHeartbeats 1000000 in
theorem j_X1_baseOf_21 {p : Program} {l : Launch} {e : Env} {s : State} {m : MethodId} {args : Array Value} {below : List Frame} {meth : Method} {c : Code} {D : va_G} {aC : Nat → ClassId} {b0 fu : Nat} {σ0 τ : tM} {v : Option Nat}  (C : tCx p l s m args meth c yX1_baseOf.cls cX1_baseOf 2 (some (.object "SyncTree$Row")) D aC b0 σ0) (htab : ∀ x ∈ c.exceptionTable.toList, False) (hin : meth.name = yX1_baseOf.name)  {s0 : Option Nat} {σ : tM} (hm : J_X1_baseOf_21 b0 fu  s0 σ = some (v, τ)) : tX p l e s m args below meth c 2 0 0 D aC b0 σ0 (.inl (some (va_rf v))) τ 21 [] [va_rf (s0)] σ := by
  unfold J_X1_baseOf_21 at hm
  obtain ⟨rfl, rfl⟩ := ret_e hm
  exact zx_aret (x := s0) C rfl (Or.inl ⟨_, rfl⟩) rfl rfl dX1_baseOf_21
set_option maxRecDepth 100000 in
set_option maxHeartbeats 1000000 in
theorem j_X1_baseOf_11 {p : Program} {l : Launch} {e : Env} {s : State} {m : MethodId} {args : Array Value} {below : List Frame} {meth : Method} {c : Code} {D : va_G} {aC : Nat → ClassId} {b0 fu : Nat} {σ0 τ : tM} {v : Option Nat}  (C : tCx p l s m args meth c yX1_baseOf.cls cX1_baseOf 2 (some (.object "SyncTree$Row")) D aC b0 σ0) (htab : ∀ x ∈ c.exceptionTable.toList, False) (hin : meth.name = yX1_baseOf.name)   {σ : tM} (hm : J_X1_baseOf_11 b0 fu   σ = some (v, τ)) : tX p l e s m args below meth c 2 0 0 D aC b0 σ0 (.inl (some (va_rf v))) τ 11 [] [] σ := by
  unfold J_X1_baseOf_11 at hm
  refine zx_null C dX1_baseOf_11 ?_
  refine zx_goto C 21 dX1_baseOf_12 (by decide) ?_
  exact zx_lv [] [] rfl (j_X1_baseOf_21 C htab hin    hm)
set_option maxRecDepth 100000 in
set_option maxHeartbeats 1000000 in
theorem c_X1_baseOf {l : Launch} {D : va_G} {aC : Nat → ClassId} {b0 fu : Nat} {a0 : Nat} {p0 : Int32} {σ τ : tM} {v : Option Nat} (hm : m_X1_baseOf b0 fu a0 p0 σ = some (v, τ)) : tMt l D aC b0 yX1_baseOf (Cond.code yX1_baseOf cX1_baseOf 2 (some (.object "SyncTree$Row"))) 0 0 [.ref (a0), .int (p0)] σ (.inl (some (va_rf v))) τ := by
  unfold m_X1_baseOf at hm
  obtain ⟨hg, hm⟩ := grw_e hm
  refine tMt_of (n := 0) rfl (Nat.le_of_ble_eq_true rfl) hg ?_
  intro p e s m below meth c C htab hin
  refine zx_lv [0, 1] [(0, .ref (a0)), (1, .int (p0))] rfl ?_
  refine zx_iload_n C dX1_baseOf_0 1 rfl ?_
  refine zx_if_lt C 11 dX1_baseOf_1 (by decide) (fun c1 => ?_) (fun c1 => ?_)
  · replace hm := ip_e hm c1
    exact zx_lv [] [] rfl (j_X1_baseOf_11 C htab hin    hm)
  · replace hm := in_e hm c1
    refine zx_iload_n C dX1_baseOf_4 1 rfl ?_
    refine zx_sipush (v := 2034) C dX1_baseOf_5 (by decide) ?_
    refine zx_icmp_lt C 15 dX1_baseOf_8 (by decide) (fun c2 => ?_) (fun c2 => ?_)
    · replace hm := ip_e hm c2
      refine zx_aload_n C dX1_baseOf_15 0 rfl ?_
      obtain ⟨k3, i4, hm⟩ := ckO_e hm
      obtain ⟨a5, h6, hm⟩ := osm_e hm
      refine zx_get (j := 3) C tC_1 k3 i4 ⟨by decide, Or.inl W_1_183⟩ dX1_baseOf_16 (.ref a5) (rf_s h6) ?_
      refine zx_iload_n C dX1_baseOf_19 1 rfl ?_
      obtain ⟨n9, k7, i8, hm⟩ := ckR_e hm
      obtain ⟨h10, hm⟩ := ckI_e hm
      rcases omt_e hm with ⟨a11, h12, hm⟩ | ⟨h12, hm⟩
      · refine zx_aald C k7 i8 h10 dX1_baseOf_20 (.ref a11) (rf_s h12) ?_
        exact zx_lv [] [] rfl (j_X1_baseOf_21 C htab hin    hm)
      · refine zx_aald C k7 i8 h10 dX1_baseOf_20 .null (rf_n h12) ?_
        exact zx_lv [] [] rfl (j_X1_baseOf_21 C htab hin    hm)
    · replace hm := in_e hm c2
      exact zx_lv [] [] rfl (j_X1_baseOf_11 C htab hin    hm)
abbrev cX1_wrap : ByteArray := prog_3_method_9_code
def yX1_wrap : MethodName := ⟨"SyncTree$Journal", "wrap", "(I)I"⟩
theorem Y_X1_wrap : tY yX1_wrap cX1_wrap 2 (some .int) 1 := ⟨W_3_227, W_1_5, ⟨by decide +kernel, by decide +kernel⟩, by decide +kernel⟩
theorem dX1_wrap_0 : decode cX1_wrap 0 = .ok (.aload_n 0, 1) := by decide +kernel
theorem dX1_wrap_1 : decode cX1_wrap 1 = .ok (.getfield 46, 3) := by decide +kernel
theorem dX1_wrap_4 : decode cX1_wrap 4 = .ok (.ifCond .le 16, 3) := by decide +kernel
theorem dX1_wrap_7 : decode cX1_wrap 7 = .ok (.iload_n 1, 1) := by decide +kernel
theorem dX1_wrap_8 : decode cX1_wrap 8 = .ok (.ifCond .lt 12, 3) := by decide +kernel
theorem dX1_wrap_11 : decode cX1_wrap 11 = .ok (.iload_n 1, 1) := by decide +kernel
theorem dX1_wrap_12 : decode cX1_wrap 12 = .ok (.aload_n 0, 1) := by decide +kernel
theorem dX1_wrap_13 : decode cX1_wrap 13 = .ok (.getfield 46, 3) := by decide +kernel
theorem dX1_wrap_16 : decode cX1_wrap 16 = .ok (.irem, 1) := by decide +kernel
theorem dX1_wrap_17 : decode cX1_wrap 17 = .ok (.goto 4, 3) := by decide +kernel
theorem dX1_wrap_20 : decode cX1_wrap 20 = .ok (.iconst 0, 1) := by decide +kernel
theorem dX1_wrap_21 : decode cX1_wrap 21 = .ok (.ireturn, 1) := by decide +kernel
set_option maxRecDepth 100000 in
set_option maxHeartbeats 1000000 in
theorem j_X1_wrap_21 {p : Program} {l : Launch} {e : Env} {s : State} {m : MethodId} {args : Array Value} {below : List Frame} {meth : Method} {c : Code} {D : va_G} {aC : Nat → ClassId} {b0 fu : Nat} {σ0 τ : tM} {v : Int32}  (C : tCx p l s m args meth c yX1_wrap.cls cX1_wrap 2 (some .int) D aC b0 σ0) (htab : ∀ x ∈ c.exceptionTable.toList, False) (hin : meth.name = yX1_wrap.name)  {s0 : Int32} {σ : tM} (hm : J_X1_wrap_21 b0 fu  s0 σ = some (v, τ)) : tX p l e s m args below meth c 2 0 0 D aC b0 σ0 (.inl (some (.int v))) τ 21 [] [.int (s0)] σ := by
  unfold J_X1_wrap_21 at hm
  obtain ⟨rfl, rfl⟩ := ret_e hm
  exact zx_iret C rfl rfl rfl dX1_wrap_21
set_option maxRecDepth 100000 in
set_option maxHeartbeats 1000000 in
theorem j_X1_wrap_20 {p : Program} {l : Launch} {e : Env} {s : State} {m : MethodId} {args : Array Value} {below : List Frame} {meth : Method} {c : Code} {D : va_G} {aC : Nat → ClassId} {b0 fu : Nat} {σ0 τ : tM} {v : Int32}  (C : tCx p l s m args meth c yX1_wrap.cls cX1_wrap 2 (some .int) D aC b0 σ0) (htab : ∀ x ∈ c.exceptionTable.toList, False) (hin : meth.name = yX1_wrap.name)   {σ : tM} (hm : J_X1_wrap_20 b0 fu   σ = some (v, τ)) : tX p l e s m args below meth c 2 0 0 D aC b0 σ0 (.inl (some (.int v))) τ 20 [] [] σ := by
  unfold J_X1_wrap_20 at hm
  refine zx_iconst (v := 0) C dX1_wrap_20 (by decide) ?_
  exact zx_lv [] [] rfl (j_X1_wrap_21 C htab hin    hm)
set_option maxRecDepth 100000 in
set_option maxHeartbeats 1000000 in
theorem c_X1_wrap {l : Launch} {D : va_G} {aC : Nat → ClassId} {b0 fu : Nat} {a0 : Nat} {p0 : Int32} {σ τ : tM} {v : Int32} (hm : m_X1_wrap b0 fu a0 p0 σ = some (v, τ)) : tMt l D aC b0 yX1_wrap (Cond.code yX1_wrap cX1_wrap 2 (some .int)) 0 0 [.ref (a0), .int (p0)] σ (.inl (some (.int v))) τ := by
  unfold m_X1_wrap at hm
  obtain ⟨hg, hm⟩ := grw_e hm
  refine tMt_of (n := 0) rfl (Nat.le_of_ble_eq_true rfl) hg ?_
  intro p e s m below meth c C htab hin
  refine zx_lv [0, 1] [(0, .ref (a0)), (1, .int (p0))] rfl ?_
  refine zx_aload_n C dX1_wrap_0 0 rfl ?_
  obtain ⟨k1, i2, hm⟩ := ckO_e hm
  refine zx_get (j := 8) C tC_1 k1 i2 ⟨by decide, Or.inl W_1_188⟩ dX1_wrap_1 (.int (tI (σ) (a0) 8)) rfl ?_
  refine zx_if_le C 20 dX1_wrap_4 (by decide) (fun c3 => ?_) (fun c3 => ?_)
  · replace hm := ip_e hm c3
    exact zx_lv [] [] rfl (j_X1_wrap_20 C htab hin    hm)
  · replace hm := in_e hm c3
    refine zx_iload_n C dX1_wrap_7 1 rfl ?_
    refine zx_if_lt C 20 dX1_wrap_8 (by decide) (fun c4 => ?_) (fun c4 => ?_)
    · replace hm := ip_e hm c4
      exact zx_lv [] [] rfl (j_X1_wrap_20 C htab hin    hm)
    · replace hm := in_e hm c4
      refine zx_iload_n C dX1_wrap_11 1 rfl ?_
      refine zx_aload_n C dX1_wrap_12 0 rfl ?_
      refine zx_get (j := 8) C tC_1 k1 i2 ⟨by decide, Or.inl W_1_188⟩ dX1_wrap_13 (.int (tI (σ) (a0) 8)) rfl ?_
      obtain ⟨h5, hm⟩ := ckD_e hm
      refine zx_irem C dX1_wrap_16 h5 ?_
      refine zx_goto C 21 dX1_wrap_17 (by decide) ?_
      exact zx_lv [] [] rfl (j_X1_wrap_21 C htab hin    hm)
abbrev cX1_fold : ByteArray := prog_3_method_15_code
def yX1_fold : MethodName := ⟨"SyncTree$Journal", "fold", "(I)V"⟩
theorem Y_X1_fold : tY yX1_fold cX1_fold 3 none 1 := ⟨W_3_223, W_1_5, ⟨by decide +kernel, by decide +kernel⟩, by decide +kernel⟩
theorem dX1_fold_0 : decode cX1_fold 0 = .ok (.aload_n 0, 1) := by decide +kernel
theorem dX1_fold_1 : decode cX1_fold 1 = .ok (.getfield 152, 3) := by decide +kernel
theorem dX1_fold_4 : decode cX1_fold 4 = .ok (.ifnull 143, 3) := by decide +kernel
theorem dX1_fold_7 : decode cX1_fold 7 = .ok (.aload_n 0, 1) := by decide +kernel
theorem dX1_fold_8 : decode cX1_fold 8 = .ok (.getfield 152, 3) := by decide +kernel
theorem dX1_fold_11 : decode cX1_fold 11 = .ok (.getfield 183, 3) := by decide +kernel
theorem dX1_fold_14 : decode cX1_fold 14 = .ok (.iload_n 1, 1) := by decide +kernel
theorem dX1_fold_15 : decode cX1_fold 15 = .ok (.if_icmp .gt 132, 3) := by decide +kernel
theorem dX1_fold_18 : decode cX1_fold 18 = .ok (.iconst 0, 1) := by decide +kernel
theorem dX1_fold_19 : decode cX1_fold 19 = .ok (.istore_n 2, 1) := by decide +kernel
theorem dX1_fold_20 : decode cX1_fold 20 = .ok (.iload_n 2, 1) := by decide +kernel
theorem dX1_fold_21 : decode cX1_fold 21 = .ok (.aload_n 0, 1) := by decide +kernel
theorem dX1_fold_22 : decode cX1_fold 22 = .ok (.getfield 152, 3) := by decide +kernel
theorem dX1_fold_25 : decode cX1_fold 25 = .ok (.getfield 157, 3) := by decide +kernel
theorem dX1_fold_28 : decode cX1_fold 28 = .ok (.arraylength, 1) := by decide +kernel
theorem dX1_fold_29 : decode cX1_fold 29 = .ok (.if_icmp .ge 31, 3) := by decide +kernel
theorem dX1_fold_32 : decode cX1_fold 32 = .ok (.aload_n 0, 1) := by decide +kernel
theorem dX1_fold_33 : decode cX1_fold 33 = .ok (.aload_n 0, 1) := by decide +kernel
theorem dX1_fold_34 : decode cX1_fold 34 = .ok (.getfield 152, 3) := by decide +kernel
theorem dX1_fold_37 : decode cX1_fold 37 = .ok (.getfield 157, 3) := by decide +kernel
theorem dX1_fold_40 : decode cX1_fold 40 = .ok (.iload_n 2, 1) := by decide +kernel
theorem dX1_fold_41 : decode cX1_fold 41 = .ok (.iaload, 1) := by decide +kernel
theorem dX1_fold_42 : decode cX1_fold 42 = .ok (.aload_n 0, 1) := by decide +kernel
theorem dX1_fold_43 : decode cX1_fold 43 = .ok (.getfield 152, 3) := by decide +kernel
theorem dX1_fold_46 : decode cX1_fold 46 = .ok (.getfield 168, 3) := by decide +kernel
theorem dX1_fold_49 : decode cX1_fold 49 = .ok (.iload_n 2, 1) := by decide +kernel
theorem dX1_fold_50 : decode cX1_fold 50 = .ok (.aaload, 1) := by decide +kernel
theorem dX1_fold_51 : decode cX1_fold 51 = .ok (.invokevirtual 42, 3) := by decide +kernel
theorem dX1_fold_54 : decode cX1_fold 54 = .ok (.iinc 2 1, 3) := by decide +kernel
theorem dX1_fold_57 : decode cX1_fold 57 = .ok (.goto (-37), 3) := by decide +kernel
theorem dX1_fold_60 : decode cX1_fold 60 = .ok (.iconst 0, 1) := by decide +kernel
theorem dX1_fold_61 : decode cX1_fold 61 = .ok (.istore_n 2, 1) := by decide +kernel
theorem dX1_fold_62 : decode cX1_fold 62 = .ok (.iload_n 2, 1) := by decide +kernel
theorem dX1_fold_63 : decode cX1_fold 63 = .ok (.aload_n 0, 1) := by decide +kernel
theorem dX1_fold_64 : decode cX1_fold 64 = .ok (.getfield 152, 3) := by decide +kernel
theorem dX1_fold_67 : decode cX1_fold 67 = .ok (.getfield 161, 3) := by decide +kernel
theorem dX1_fold_70 : decode cX1_fold 70 = .ok (.arraylength, 1) := by decide +kernel
theorem dX1_fold_71 : decode cX1_fold 71 = .ok (.if_icmp .ge 23, 3) := by decide +kernel
theorem dX1_fold_74 : decode cX1_fold 74 = .ok (.aload_n 0, 1) := by decide +kernel
theorem dX1_fold_75 : decode cX1_fold 75 = .ok (.aload_n 0, 1) := by decide +kernel
theorem dX1_fold_76 : decode cX1_fold 76 = .ok (.getfield 152, 3) := by decide +kernel
theorem dX1_fold_79 : decode cX1_fold 79 = .ok (.getfield 161, 3) := by decide +kernel
theorem dX1_fold_82 : decode cX1_fold 82 = .ok (.iload_n 2, 1) := by decide +kernel
theorem dX1_fold_83 : decode cX1_fold 83 = .ok (.iaload, 1) := by decide +kernel
theorem dX1_fold_84 : decode cX1_fold 84 = .ok (.aconst_null, 1) := by decide +kernel
theorem dX1_fold_85 : decode cX1_fold 85 = .ok (.invokevirtual 42, 3) := by decide +kernel
theorem dX1_fold_88 : decode cX1_fold 88 = .ok (.iinc 2 1, 3) := by decide +kernel
theorem dX1_fold_91 : decode cX1_fold 91 = .ok (.goto (-29), 3) := by decide +kernel
theorem dX1_fold_94 : decode cX1_fold 94 = .ok (.aload_n 0, 1) := by decide +kernel
theorem dX1_fold_95 : decode cX1_fold 95 = .ok (.dup, 1) := by decide +kernel
theorem dX1_fold_96 : decode cX1_fold 96 = .ok (.getfield 81, 3) := by decide +kernel
theorem dX1_fold_99 : decode cX1_fold 99 = .ok (.aload_n 0, 1) := by decide +kernel
theorem dX1_fold_100 : decode cX1_fold 100 = .ok (.getfield 152, 3) := by decide +kernel
theorem dX1_fold_103 : decode cX1_fold 103 = .ok (.getfield 186, 3) := by decide +kernel
theorem dX1_fold_106 : decode cX1_fold 106 = .ok (.isub, 1) := by decide +kernel
theorem dX1_fold_107 : decode cX1_fold 107 = .ok (.putfield 81, 3) := by decide +kernel
theorem dX1_fold_110 : decode cX1_fold 110 = .ok (.aload_n 0, 1) := by decide +kernel
theorem dX1_fold_111 : decode cX1_fold 111 = .ok (.aload_n 0, 1) := by decide +kernel
theorem dX1_fold_112 : decode cX1_fold 112 = .ok (.aload_n 0, 1) := by decide +kernel
theorem dX1_fold_113 : decode cX1_fold 113 = .ok (.getfield 152, 3) := by decide +kernel
theorem dX1_fold_116 : decode cX1_fold 116 = .ok (.getfield 189, 3) := by decide +kernel
theorem dX1_fold_119 : decode cX1_fold 119 = .ok (.aload_n 0, 1) := by decide +kernel
theorem dX1_fold_120 : decode cX1_fold 120 = .ok (.getfield 152, 3) := by decide +kernel
theorem dX1_fold_123 : decode cX1_fold 123 = .ok (.getfield 186, 3) := by decide +kernel
theorem dX1_fold_126 : decode cX1_fold 126 = .ok (.iadd, 1) := by decide +kernel
theorem dX1_fold_127 : decode cX1_fold 127 = .ok (.invokevirtual 122, 3) := by decide +kernel
theorem dX1_fold_130 : decode cX1_fold 130 = .ok (.putfield 49, 3) := by decide +kernel
theorem dX1_fold_133 : decode cX1_fold 133 = .ok (.aload_n 0, 1) := by decide +kernel
theorem dX1_fold_134 : decode cX1_fold 134 = .ok (.aload_n 0, 1) := by decide +kernel
theorem dX1_fold_135 : decode cX1_fold 135 = .ok (.getfield 152, 3) := by decide +kernel
theorem dX1_fold_138 : decode cX1_fold 138 = .ok (.getfield 155, 3) := by decide +kernel
theorem dX1_fold_141 : decode cX1_fold 141 = .ok (.putfield 152, 3) := by decide +kernel
theorem dX1_fold_144 : decode cX1_fold 144 = .ok (.goto (-144), 3) := by decide +kernel
theorem dX1_fold_147 : decode cX1_fold 147 = .ok (.aload_n 0, 1) := by decide +kernel
theorem dX1_fold_148 : decode cX1_fold 148 = .ok (.getfield 152, 3) := by decide +kernel
theorem dX1_fold_151 : decode cX1_fold 151 = .ok (.ifnonnull 8, 3) := by decide +kernel
theorem dX1_fold_154 : decode cX1_fold 154 = .ok (.aload_n 0, 1) := by decide +kernel
theorem dX1_fold_155 : decode cX1_fold 155 = .ok (.aconst_null, 1) := by decide +kernel
theorem dX1_fold_156 : decode cX1_fold 156 = .ok (.putfield 148, 3) := by decide +kernel
theorem dX1_fold_159 : decode cX1_fold 159 = .ok (.return_, 1) := by decide +kernel
set_option maxRecDepth 100000 in
set_option maxHeartbeats 1000000 in
theorem j_X1_fold_159 {p : Program} {l : Launch} {e : Env} {s : State} {m : MethodId} {args : Array Value} {below : List Frame} {meth : Method} {c : Code} {D : va_G} {aC : Nat → ClassId} {b0 fu : Nat} {σ0 τ : tM} {v : Unit}  (C : tCx p l s m args meth c yX1_fold.cls cX1_fold 3 none D aC b0 σ0) (htab : ∀ x ∈ c.exceptionTable.toList, False) (hin : meth.name = yX1_fold.name)   {σ : tM} (hm : J_X1_fold_159 b0 fu   σ = some (v, τ)) : tX p l e s m args below meth c 3 2 43 D aC b0 σ0 (.inl none) τ 159 [] [] σ := by
  unfold J_X1_fold_159 at hm
  obtain ⟨rfl, rfl⟩ := ret_e hm
  exact zx_vret C rfl rfl rfl dX1_fold_159
set_option maxRecDepth 100000 in
set_option maxHeartbeats 1000000 in
theorem j_X1_fold_147 {p : Program} {l : Launch} {e : Env} {s : State} {m : MethodId} {args : Array Value} {below : List Frame} {meth : Method} {c : Code} {D : va_G} {aC : Nat → ClassId} {b0 fu : Nat} {σ0 τ : tM} {v : Unit}  (C : tCx p l s m args meth c yX1_fold.cls cX1_fold 3 none D aC b0 σ0) (htab : ∀ x ∈ c.exceptionTable.toList, False) (hin : meth.name = yX1_fold.name)  {x0 : Nat} {σ : tM} (hm : J_X1_fold_147 b0 fu  x0 σ = some (v, τ)) : tX p l e s m args below meth c 3 2 43 D aC b0 σ0 (.inl none) τ 147 [(0, .ref (x0))] [] σ := by
  unfold J_X1_fold_147 at hm
  refine zx_aload_n C dX1_fold_147 0 rfl ?_
  obtain ⟨k10, i11, hm⟩ := ckO_e hm
  rcases omt_e hm with ⟨a12, h13, hm⟩ | ⟨h13, hm⟩
  · refine zx_get (j := 5) C tC_1 k10 i11 ⟨by decide, Or.inl W_1_185⟩ dX1_fold_148 (.ref a12) (rf_s h13) ?_
    refine zx_ifnonnull C 159 dX1_fold_151 (by decide) ?_
    exact zx_lv [] [] rfl (j_X1_fold_159 C htab hin    hm)
  · refine zx_get (j := 5) C tC_1 k10 i11 ⟨by decide, Or.inl W_1_185⟩ dX1_fold_148 .null (rf_n h13) ?_
    refine zx_ifnonnullN C dX1_fold_151 ?_
    refine zx_aload_n C dX1_fold_154 0 rfl ?_
    refine zx_null C dX1_fold_155 ?_
    refine zx_put (j := 6) (ρ := sA (σ) (x0) 6 (none)) C tC_1 k10 i11 ⟨by decide, Or.inl W_1_186⟩ rfl rfl rfl (sA_ok (fun _ => rfl)) dX1_fold_156 ?_
    exact zx_lv [] [] rfl (j_X1_fold_159 C htab hin    hm)
set_option maxRecDepth 100000 in
set_option maxHeartbeats 1000000 in
theorem l_X1_fold_62 {p : Program} {l : Launch} {e : Env} {s : State} {m : MethodId} {args : Array Value} {below : List Frame} {meth : Method} {c : Code} {D : va_G} {aC : Nat → ClassId} {b0 fu : Nat} {σ0 τ : tM} {v : Unit} {rc0 : Nat → Int32 → tM → Option ((Unit) × tM)} (C : tCx p l s m args meth c yX1_fold.cls cX1_fold 3 none D aC b0 σ0) (htab : ∀ x ∈ c.exceptionTable.toList, False) (hin : meth.name = yX1_fold.name) (hrc0 : ∀ (x0 : Nat) (x1 : Int32) (ρ : tM), rc0 x0 x1 ρ = some (v, τ) → tX p l e s m args below meth c 3 2 43 D aC b0 σ0 (.inl none) τ 0 [(0, .ref (x0)), (1, .int (x1))] [] ρ) : ∀ (n : Nat) (x0 : Nat) (x1 : Int32) (x2 : Int32) (σ : tM), L_X1_fold_62 b0 fu rc0 n x0 x1 x2 σ = some (v, τ) → tX p l e s m args below meth c 3 2 43 D aC b0 σ0 (.inl none) τ 62 [(0, .ref (x0)), (1, .int (x1)), (2, .int (x2))] [] σ := by
  intro n
  induction n with
  | zero => intro x0 x1 x2 σ hm; unfold L_X1_fold_62 at hm; cases hm
  | succ n ih =>
    intro x0 x1 x2 σ hm
    unfold L_X1_fold_62 at hm
    obtain ⟨rc62, hrc⟩ : ∃ z, z = L_X1_fold_62 b0 fu rc0 n := ⟨_, rfl⟩
    replace hm := ltb_e hm hrc
    rw [← hrc] at ih
    have hrc62 := ih
    clear ih hrc
    refine zx_iload_n C dX1_fold_62 2 rfl ?_
    refine zx_aload_n C dX1_fold_63 0 rfl ?_
    obtain ⟨k26, i27, hm⟩ := ckO_e hm
    rcases omt_e hm with ⟨a28, h29, hm⟩ | ⟨h29, hm⟩
    · refine zx_get (j := 5) C tC_1 k26 i27 ⟨by decide, Or.inl W_1_185⟩ dX1_fold_64 (.ref a28) (rf_s h29) ?_
      obtain ⟨k30, i31, hm⟩ := ckO_e hm
      obtain ⟨a32, h33, hm⟩ := osm_e hm
      refine zx_get (j := 6) C tC_7 k30 i31 ⟨by decide, Or.inr ⟨_, W_4_34⟩⟩ dX1_fold_67 (.ref a32) (rf_s h33) ?_
      obtain ⟨n36, k34, i35, hm⟩ := ckR_e hm
      refine zx_alen C k34 (by decide) i35 dX1_fold_70 ?_
      refine zx_icmp_ge C 94 dX1_fold_71 (by decide) (fun c37 => ?_) (fun c37 => ?_)
      · replace hm := ip_e hm c37
        refine zx_aload_n C dX1_fold_94 0 rfl ?_
        refine zx_dup C dX1_fold_95 rfl ?_
        refine zx_get (j := 9) C tC_1 k26 i27 ⟨by decide, Or.inl W_1_189⟩ dX1_fold_96 (.int (tI (σ) (x0) 9)) rfl ?_
        refine zx_aload_n C dX1_fold_99 0 rfl ?_
        rcases omt_e hm with ⟨a38, h39, hm⟩ | ⟨h39, hm⟩
        · refine zx_get (j := 5) C tC_1 k26 i27 ⟨by decide, Or.inl W_1_185⟩ dX1_fold_100 (.ref a38) (rf_s h39) ?_
          obtain ⟨k40, i41, hm⟩ := ckO_e hm
          refine zx_get (j := 3) C tC_7 k40 i41 ⟨by decide, Or.inr ⟨_, W_4_28⟩⟩ dX1_fold_103 (.int (tI (σ) (a38) 3)) rfl ?_
          refine zx_isub C dX1_fold_106 ?_
          refine zx_put (j := 9) (ρ := sI (σ) (x0) 9 ((tI (σ) (x0) 9) - (tI (σ) (a38) 3))) C tC_1 k26 i27 ⟨by decide, Or.inl W_1_189⟩ rfl rfl rfl (sI_ok (fun _ => rfl)) dX1_fold_107 ?_
          refine zx_aload_n C dX1_fold_110 0 rfl ?_
          refine zx_aload_n C dX1_fold_111 0 rfl ?_
          refine zx_aload_n C dX1_fold_112 0 rfl ?_
          rcases omt_e hm with ⟨a42, h43, hm⟩ | ⟨h43, hm⟩
          · refine zx_get (j := 5) C tC_1 k26 i27 ⟨by decide, Or.inl W_1_185⟩ dX1_fold_113 (.ref a42) (rf_s h43) ?_
            obtain ⟨k44, i45, hm⟩ := ckO_e hm
            refine zx_get (j := 2) C tC_7 k44 i45 ⟨by decide, Or.inr ⟨_, W_4_26⟩⟩ dX1_fold_116 (.int (tI (sI (σ) (x0) 9 ((tI (σ) (x0) 9) - (tI (σ) (a38) 3))) (a42) 2)) rfl ?_
            refine zx_aload_n C dX1_fold_119 0 rfl ?_
            rcases omt_e hm with ⟨a46, h47, hm⟩ | ⟨h47, hm⟩
            · refine zx_get (j := 5) C tC_1 k26 i27 ⟨by decide, Or.inl W_1_185⟩ dX1_fold_120 (.ref a46) (rf_s h47) ?_
              obtain ⟨k48, i49, hm⟩ := ckO_e hm
              refine zx_get (j := 3) C tC_7 k48 i49 ⟨by decide, Or.inr ⟨_, W_4_28⟩⟩ dX1_fold_123 (.int (tI (sI (σ) (x0) 9 ((tI (σ) (x0) 9) - (tI (σ) (a38) 3))) (a46) 3)) rfl ?_
              refine zx_iadd C dX1_fold_126 ?_
              obtain ⟨v50, ρ51, h52, hm⟩ := cll_e hm
              refine zx_callV (σ := sI (σ) (x0) 9 ((tI (σ) (x0) 9) - (tI (σ) (a38) 3))) C [.int ((tI (sI (σ) (x0) 9 ((tI (σ) (x0) 9) - (tI (σ) (a38) 3))) (a42) 2) + (tI (sI (σ) (x0) 9 ((tI (σ) (x0) 9) - (tI (σ) (a38) 3))) (a46) 3))] tC_1 k26 i27 Y_X1_wrap W_3_224 W_3_226 Wp_16 (c_X1_wrap h52) (by decide) (by decide) rfl (Nat.le_of_ble_eq_true rfl) dX1_fold_127 rfl ?_
              obtain ⟨k53, i54, hm⟩ := ckO_e hm
              refine zx_put (j := 11) (ρ := sI (ρ51) (x0) 11 (v50)) C tC_1 k53 i54 ⟨by decide, Or.inl W_1_191⟩ rfl rfl rfl (sI_ok (fun _ => rfl)) dX1_fold_130 ?_
              refine zx_aload_n C dX1_fold_133 0 rfl ?_
              refine zx_aload_n C dX1_fold_134 0 rfl ?_
              rcases omt_e hm with ⟨a55, h56, hm⟩ | ⟨h56, hm⟩
              · refine zx_get (j := 5) C tC_1 k53 i54 ⟨by decide, Or.inl W_1_185⟩ dX1_fold_135 (.ref a55) (rf_s h56) ?_
                obtain ⟨k57, i58, hm⟩ := ckO_e hm
                rcases omt_e hm with ⟨a59, h60, hm⟩ | ⟨h60, hm⟩
                · refine zx_get (j := 7) C tC_7 k57 i58 ⟨by decide, Or.inr ⟨_, W_4_35⟩⟩ dX1_fold_138 (.ref a59) (rf_s h60) ?_
                  refine zx_put (j := 5) (ρ := sA (sI (ρ51) (x0) 11 (v50)) (x0) 5 (some (a59))) C tC_1 k53 i54 ⟨by decide, Or.inl W_1_185⟩ rfl rfl rfl (sA_ok (fun _ => rfl)) dX1_fold_141 ?_
                  refine zx_goto C 0 dX1_fold_144 (by decide) ?_
                  exact zx_lv [0, 1] [(0, .ref (x0)), (1, .int (x1))] rfl (hrc0 _ _ _ hm)
                · refine zx_get (j := 7) C tC_7 k57 i58 ⟨by decide, Or.inr ⟨_, W_4_35⟩⟩ dX1_fold_138 .null (rf_n h60) ?_
                  refine zx_put (j := 5) (ρ := sA (sI (ρ51) (x0) 11 (v50)) (x0) 5 (none)) C tC_1 k53 i54 ⟨by decide, Or.inl W_1_185⟩ rfl rfl rfl (sA_ok (fun _ => rfl)) dX1_fold_141 ?_
                  refine zx_goto C 0 dX1_fold_144 (by decide) ?_
                  exact zx_lv [0, 1] [(0, .ref (x0)), (1, .int (x1))] rfl (hrc0 _ _ _ hm)
              · refine zx_get (j := 5) C tC_1 k53 i54 ⟨by decide, Or.inl W_1_185⟩ dX1_fold_135 .null (rf_n h56) ?_
                cases hm
            · refine zx_get (j := 5) C tC_1 k26 i27 ⟨by decide, Or.inl W_1_185⟩ dX1_fold_120 .null (rf_n h47) ?_
              cases hm
          · refine zx_get (j := 5) C tC_1 k26 i27 ⟨by decide, Or.inl W_1_185⟩ dX1_fold_113 .null (rf_n h43) ?_
            cases hm
        · refine zx_get (j := 5) C tC_1 k26 i27 ⟨by decide, Or.inl W_1_185⟩ dX1_fold_100 .null (rf_n h39) ?_
          cases hm
      · replace hm := in_e hm c37
        refine zx_aload_n C dX1_fold_74 0 rfl ?_
        refine zx_aload_n C dX1_fold_75 0 rfl ?_
        rcases omt_e hm with ⟨a61, h62, hm⟩ | ⟨h62, hm⟩
        · refine zx_get (j := 5) C tC_1 k26 i27 ⟨by decide, Or.inl W_1_185⟩ dX1_fold_76 (.ref a61) (rf_s h62) ?_
          obtain ⟨k63, i64, hm⟩ := ckO_e hm
          obtain ⟨a65, h66, hm⟩ := osm_e hm
          refine zx_get (j := 6) C tC_7 k63 i64 ⟨by decide, Or.inr ⟨_, W_4_34⟩⟩ dX1_fold_79 (.ref a65) (rf_s h66) ?_
          refine zx_iload_n C dX1_fold_82 2 rfl ?_
          obtain ⟨n69, k67, i68, hm⟩ := ckR_e hm
          obtain ⟨h70, hm⟩ := ckI_e hm
          refine zx_iald C k67 i68 h70 dX1_fold_83 ?_
          refine zx_null C dX1_fold_84 ?_
          obtain ⟨v71, ρ72, h73, hm⟩ := cll_e hm
          refine zx_callV (σ := σ) C [.int (tI (σ) (a65) ((x2).toNatClampNeg)), va_rf (none)] tC_1 k26 i27 Y_X1_setBase W_2_97 W_2_99 Wp_3 (c_X1_setBase h73) (by decide) (by decide) rfl (Nat.le_of_ble_eq_true rfl) dX1_fold_85 rfl ?_
          obtain ⟨y74, hy74⟩ : ∃ z : Int32, z = (x2) + Int32.ofInt 1 := ⟨_, rfl⟩
          replace hm := ltb_e hm hy74
          refine zx_iinc C [(2, .int (y74)), (0, .ref (x0)), (1, .int (x1))] dX1_fold_88 2 rfl hy74.symm (by decide) rfl ?_
          refine zx_goto C 62 dX1_fold_91 (by decide) ?_
          exact zx_lv [1, 2, 0] [(0, .ref (x0)), (1, .int (x1)), (2, .int (y74))] rfl (hrc62 _ _ _ _ hm)
        · refine zx_get (j := 5) C tC_1 k26 i27 ⟨by decide, Or.inl W_1_185⟩ dX1_fold_76 .null (rf_n h62) ?_
          cases hm
    · refine zx_get (j := 5) C tC_1 k26 i27 ⟨by decide, Or.inl W_1_185⟩ dX1_fold_64 .null (rf_n h29) ?_
      cases hm
set_option maxRecDepth 100000 in
set_option maxHeartbeats 1000000 in
theorem l_X1_fold_20 {p : Program} {l : Launch} {e : Env} {s : State} {m : MethodId} {args : Array Value} {below : List Frame} {meth : Method} {c : Code} {D : va_G} {aC : Nat → ClassId} {b0 fu : Nat} {σ0 τ : tM} {v : Unit} {rc0 : Nat → Int32 → tM → Option ((Unit) × tM)} (C : tCx p l s m args meth c yX1_fold.cls cX1_fold 3 none D aC b0 σ0) (htab : ∀ x ∈ c.exceptionTable.toList, False) (hin : meth.name = yX1_fold.name) (hrc0 : ∀ (x0 : Nat) (x1 : Int32) (ρ : tM), rc0 x0 x1 ρ = some (v, τ) → tX p l e s m args below meth c 3 2 43 D aC b0 σ0 (.inl none) τ 0 [(0, .ref (x0)), (1, .int (x1))] [] ρ) : ∀ (n : Nat) (x0 : Nat) (x1 : Int32) (x2 : Int32) (σ : tM), L_X1_fold_20 b0 fu rc0 n x0 x1 x2 σ = some (v, τ) → tX p l e s m args below meth c 3 2 43 D aC b0 σ0 (.inl none) τ 20 [(0, .ref (x0)), (1, .int (x1)), (2, .int (x2))] [] σ := by
  intro n
  induction n with
  | zero => intro x0 x1 x2 σ hm; unfold L_X1_fold_20 at hm; cases hm
  | succ n ih =>
    intro x0 x1 x2 σ hm
    unfold L_X1_fold_20 at hm
    obtain ⟨rc20, hrc⟩ : ∃ z, z = L_X1_fold_20 b0 fu rc0 n := ⟨_, rfl⟩
    replace hm := ltb_e hm hrc
    rw [← hrc] at ih
    have hrc20 := ih
    clear ih hrc
    refine zx_iload_n C dX1_fold_20 2 rfl ?_
    refine zx_aload_n C dX1_fold_21 0 rfl ?_
    obtain ⟨k14, i15, hm⟩ := ckO_e hm
    rcases omt_e hm with ⟨a16, h17, hm⟩ | ⟨h17, hm⟩
    · refine zx_get (j := 5) C tC_1 k14 i15 ⟨by decide, Or.inl W_1_185⟩ dX1_fold_22 (.ref a16) (rf_s h17) ?_
      obtain ⟨k18, i19, hm⟩ := ckO_e hm
      obtain ⟨a20, h21, hm⟩ := osm_e hm
      refine zx_get (j := 4) C tC_7 k18 i19 ⟨by decide, Or.inr ⟨_, W_4_30⟩⟩ dX1_fold_25 (.ref a20) (rf_s h21) ?_
      obtain ⟨n24, k22, i23, hm⟩ := ckR_e hm
      refine zx_alen C k22 (by decide) i23 dX1_fold_28 ?_
      refine zx_icmp_ge C 60 dX1_fold_29 (by decide) (fun c25 => ?_) (fun c25 => ?_)
      · replace hm := ip_e hm c25
        refine zx_iconst (v := 0) C dX1_fold_60 (by decide) ?_
        refine zx_istore_n C [(2, .int (0)), (0, .ref (x0)), (1, .int (x1))] dX1_fold_61 rfl (by decide) rfl ?_
        exact zx_lv [1, 2, 0] [(0, .ref (x0)), (1, .int (x1)), (2, .int (0))] rfl (l_X1_fold_62 C htab hin hrc0 _ _ _ _ _ hm)
      · replace hm := in_e hm c25
        refine zx_aload_n C dX1_fold_32 0 rfl ?_
        refine zx_aload_n C dX1_fold_33 0 rfl ?_
        rcases omt_e hm with ⟨a75, h76, hm⟩ | ⟨h76, hm⟩
        · refine zx_get (j := 5) C tC_1 k14 i15 ⟨by decide, Or.inl W_1_185⟩ dX1_fold_34 (.ref a75) (rf_s h76) ?_
          obtain ⟨k77, i78, hm⟩ := ckO_e hm
          obtain ⟨a79, h80, hm⟩ := osm_e hm
          refine zx_get (j := 4) C tC_7 k77 i78 ⟨by decide, Or.inr ⟨_, W_4_30⟩⟩ dX1_fold_37 (.ref a79) (rf_s h80) ?_
          refine zx_iload_n C dX1_fold_40 2 rfl ?_
          obtain ⟨n83, k81, i82, hm⟩ := ckR_e hm
          obtain ⟨h84, hm⟩ := ckI_e hm
          refine zx_iald C k81 i82 h84 dX1_fold_41 ?_
          refine zx_aload_n C dX1_fold_42 0 rfl ?_
          rcases omt_e hm with ⟨a85, h86, hm⟩ | ⟨h86, hm⟩
          · refine zx_get (j := 5) C tC_1 k14 i15 ⟨by decide, Or.inl W_1_185⟩ dX1_fold_43 (.ref a85) (rf_s h86) ?_
            obtain ⟨k87, i88, hm⟩ := ckO_e hm
            obtain ⟨a89, h90, hm⟩ := osm_e hm
            refine zx_get (j := 5) C tC_7 k87 i88 ⟨by decide, Or.inr ⟨_, W_4_32⟩⟩ dX1_fold_46 (.ref a89) (rf_s h90) ?_
            refine zx_iload_n C dX1_fold_49 2 rfl ?_
            obtain ⟨n93, k91, i92, hm⟩ := ckR_e hm
            obtain ⟨h94, hm⟩ := ckI_e hm
            rcases omt_e hm with ⟨a95, h96, hm⟩ | ⟨h96, hm⟩
            · refine zx_aald C k91 i92 h94 dX1_fold_50 (.ref a95) (rf_s h96) ?_
              obtain ⟨v97, ρ98, h99, hm⟩ := cll_e hm
              refine zx_callV (σ := σ) C [.int (tI (σ) (a79) ((x2).toNatClampNeg)), va_rf (some (a95))] tC_1 k14 i15 Y_X1_setBase W_2_97 W_2_99 Wp_3 (c_X1_setBase h99) (by decide) (by decide) rfl (Nat.le_of_ble_eq_true rfl) dX1_fold_51 rfl ?_
              obtain ⟨y100, hy100⟩ : ∃ z : Int32, z = (x2) + Int32.ofInt 1 := ⟨_, rfl⟩
              replace hm := ltb_e hm hy100
              refine zx_iinc C [(2, .int (y100)), (0, .ref (x0)), (1, .int (x1))] dX1_fold_54 2 rfl hy100.symm (by decide) rfl ?_
              refine zx_goto C 20 dX1_fold_57 (by decide) ?_
              exact zx_lv [1, 2, 0] [(0, .ref (x0)), (1, .int (x1)), (2, .int (y100))] rfl (hrc20 _ _ _ _ hm)
            · refine zx_aald C k91 i92 h94 dX1_fold_50 .null (rf_n h96) ?_
              obtain ⟨v101, ρ102, h103, hm⟩ := cll_e hm
              refine zx_callV (σ := σ) C [.int (tI (σ) (a79) ((x2).toNatClampNeg)), va_rf (none)] tC_1 k14 i15 Y_X1_setBase W_2_97 W_2_99 Wp_3 (c_X1_setBase h103) (by decide) (by decide) rfl (Nat.le_of_ble_eq_true rfl) dX1_fold_51 rfl ?_
              obtain ⟨y104, hy104⟩ : ∃ z : Int32, z = (x2) + Int32.ofInt 1 := ⟨_, rfl⟩
              replace hm := ltb_e hm hy104
              refine zx_iinc C [(2, .int (y104)), (0, .ref (x0)), (1, .int (x1))] dX1_fold_54 2 rfl hy104.symm (by decide) rfl ?_
              refine zx_goto C 20 dX1_fold_57 (by decide) ?_
              exact zx_lv [1, 2, 0] [(0, .ref (x0)), (1, .int (x1)), (2, .int (y104))] rfl (hrc20 _ _ _ _ hm)
          · refine zx_get (j := 5) C tC_1 k14 i15 ⟨by decide, Or.inl W_1_185⟩ dX1_fold_43 .null (rf_n h86) ?_
            cases hm
        · refine zx_get (j := 5) C tC_1 k14 i15 ⟨by decide, Or.inl W_1_185⟩ dX1_fold_34 .null (rf_n h76) ?_
          cases hm
    · refine zx_get (j := 5) C tC_1 k14 i15 ⟨by decide, Or.inl W_1_185⟩ dX1_fold_22 .null (rf_n h17) ?_
      cases hm
set_option maxRecDepth 100000 in
set_option maxHeartbeats 1000000 in
theorem l_X1_fold_0 {p : Program} {l : Launch} {e : Env} {s : State} {m : MethodId} {args : Array Value} {below : List Frame} {meth : Method} {c : Code} {D : va_G} {aC : Nat → ClassId} {b0 fu : Nat} {σ0 τ : tM} {v : Unit}  (C : tCx p l s m args meth c yX1_fold.cls cX1_fold 3 none D aC b0 σ0) (htab : ∀ x ∈ c.exceptionTable.toList, False) (hin : meth.name = yX1_fold.name)  : ∀ (n : Nat) (x0 : Nat) (x1 : Int32) (σ : tM), L_X1_fold_0 b0 fu  n x0 x1 σ = some (v, τ) → tX p l e s m args below meth c 3 2 43 D aC b0 σ0 (.inl none) τ 0 [(0, .ref (x0)), (1, .int (x1))] [] σ := by
  intro n
  induction n with
  | zero => intro x0 x1 σ hm; unfold L_X1_fold_0 at hm; cases hm
  | succ n ih =>
    intro x0 x1 σ hm
    unfold L_X1_fold_0 at hm
    obtain ⟨rc0, hrc⟩ : ∃ z, z = L_X1_fold_0 b0 fu  n := ⟨_, rfl⟩
    replace hm := ltb_e hm hrc
    rw [← hrc] at ih
    have hrc0 := ih
    clear ih hrc
    refine zx_aload_n C dX1_fold_0 0 rfl ?_
    obtain ⟨k1, i2, hm⟩ := ckO_e hm
    rcases omt_e hm with ⟨a3, h4, hm⟩ | ⟨h4, hm⟩
    · refine zx_get (j := 5) C tC_1 k1 i2 ⟨by decide, Or.inl W_1_185⟩ dX1_fold_1 (.ref a3) (rf_s h4) ?_
      refine zx_ifnull C dX1_fold_4 ?_
      refine zx_aload_n C dX1_fold_7 0 rfl ?_
      rcases omt_e hm with ⟨a5, h6, hm⟩ | ⟨h6, hm⟩
      · refine zx_get (j := 5) C tC_1 k1 i2 ⟨by decide, Or.inl W_1_185⟩ dX1_fold_8 (.ref a5) (rf_s h6) ?_
        obtain ⟨k7, i8, hm⟩ := ckO_e hm
        refine zx_get (j := 0) C tC_7 k7 i8 ⟨by decide, Or.inr ⟨_, W_4_22⟩⟩ dX1_fold_11 (.int (tI (σ) (a5) 0)) rfl ?_
        refine zx_iload_n C dX1_fold_14 1 rfl ?_
        refine zx_icmp_gt C 147 dX1_fold_15 (by decide) (fun c9 => ?_) (fun c9 => ?_)
        · replace hm := ip_e hm c9
          exact zx_lv [0] [(0, .ref (x0))] rfl (j_X1_fold_147 C htab hin    hm)
        · replace hm := in_e hm c9
          refine zx_iconst (v := 0) C dX1_fold_18 (by decide) ?_
          refine zx_istore_n C [(2, .int (0)), (0, .ref (x0)), (1, .int (x1))] dX1_fold_19 rfl (by decide) rfl ?_
          exact zx_lv [1, 2, 0] [(0, .ref (x0)), (1, .int (x1)), (2, .int (0))] rfl (l_X1_fold_20 C htab hin hrc0 _ _ _ _ _ hm)
      · refine zx_get (j := 5) C tC_1 k1 i2 ⟨by decide, Or.inl W_1_185⟩ dX1_fold_8 .null (rf_n h6) ?_
        cases hm
    · refine zx_get (j := 5) C tC_1 k1 i2 ⟨by decide, Or.inl W_1_185⟩ dX1_fold_1 .null (rf_n h4) ?_
      refine zx_ifnullN C 147 dX1_fold_4 (by decide) ?_
      exact zx_lv [0] [(0, .ref (x0))] rfl (j_X1_fold_147 C htab hin    hm)
set_option maxRecDepth 100000 in
set_option maxHeartbeats 1000000 in
theorem c_X1_fold {l : Launch} {D : va_G} {aC : Nat → ClassId} {b0 fu : Nat} {a0 : Nat} {p0 : Int32} {σ τ : tM} {v : Unit} (hm : m_X1_fold b0 fu a0 p0 σ = some (v, τ)) : tMt l D aC b0 yX1_fold (Cond.code yX1_fold cX1_fold 3 none) 2 43 [.ref (a0), .int (p0)] σ (.inl none) τ := by
  unfold m_X1_fold at hm
  obtain ⟨hg, hm⟩ := grw_e hm
  refine tMt_of (n := 0) rfl (Nat.le_of_ble_eq_true rfl) hg ?_
  intro p e s m below meth c C htab hin
  refine zx_lv [0, 1] [(0, .ref (a0)), (1, .int (p0))] rfl ?_
  exact zx_lv [0, 1] [(0, .ref (a0)), (1, .int (p0))] rfl (l_X1_fold_0 C htab hin  _ _ _ _ hm)
abbrev cX1_dropAll : ByteArray := prog_3_method_16_code
def yX1_dropAll : MethodName := ⟨"SyncTree$Journal", "dropAll", "()V"⟩
theorem Y_X1_dropAll : tY yX1_dropAll cX1_dropAll 3 none 0 := ⟨W_2_92, W_1_5, ⟨by decide +kernel, by decide +kernel⟩, by decide +kernel⟩
theorem dX1_dropAll_0 : decode cX1_dropAll 0 = .ok (.aload_n 0, 1) := by decide +kernel
theorem dX1_dropAll_1 : decode cX1_dropAll 1 = .ok (.getfield 152, 3) := by decide +kernel
theorem dX1_dropAll_4 : decode cX1_dropAll 4 = .ok (.astore_n 1, 1) := by decide +kernel
theorem dX1_dropAll_5 : decode cX1_dropAll 5 = .ok (.aload_n 1, 1) := by decide +kernel
theorem dX1_dropAll_6 : decode cX1_dropAll 6 = .ok (.ifnull 38, 3) := by decide +kernel
theorem dX1_dropAll_9 : decode cX1_dropAll 9 = .ok (.iconst 0, 1) := by decide +kernel
theorem dX1_dropAll_10 : decode cX1_dropAll 10 = .ok (.istore_n 2, 1) := by decide +kernel
theorem dX1_dropAll_11 : decode cX1_dropAll 11 = .ok (.iload_n 2, 1) := by decide +kernel
theorem dX1_dropAll_12 : decode cX1_dropAll 12 = .ok (.aload_n 1, 1) := by decide +kernel
theorem dX1_dropAll_13 : decode cX1_dropAll 13 = .ok (.getfield 168, 3) := by decide +kernel
theorem dX1_dropAll_16 : decode cX1_dropAll 16 = .ok (.arraylength, 1) := by decide +kernel
theorem dX1_dropAll_17 : decode cX1_dropAll 17 = .ok (.if_icmp .ge 19, 3) := by decide +kernel
theorem dX1_dropAll_20 : decode cX1_dropAll 20 = .ok (.aload_n 0, 1) := by decide +kernel
theorem dX1_dropAll_21 : decode cX1_dropAll 21 = .ok (.aload_n 1, 1) := by decide +kernel
theorem dX1_dropAll_22 : decode cX1_dropAll 22 = .ok (.getfield 168, 3) := by decide +kernel
theorem dX1_dropAll_25 : decode cX1_dropAll 25 = .ok (.iload_n 2, 1) := by decide +kernel
theorem dX1_dropAll_26 : decode cX1_dropAll 26 = .ok (.aaload, 1) := by decide +kernel
theorem dX1_dropAll_27 : decode cX1_dropAll 27 = .ok (.invokevirtual 103, 3) := by decide +kernel
theorem dX1_dropAll_30 : decode cX1_dropAll 30 = .ok (.iinc 2 1, 3) := by decide +kernel
theorem dX1_dropAll_33 : decode cX1_dropAll 33 = .ok (.goto (-22), 3) := by decide +kernel
theorem dX1_dropAll_36 : decode cX1_dropAll 36 = .ok (.aload_n 1, 1) := by decide +kernel
theorem dX1_dropAll_37 : decode cX1_dropAll 37 = .ok (.getfield 155, 3) := by decide +kernel
theorem dX1_dropAll_40 : decode cX1_dropAll 40 = .ok (.astore_n 1, 1) := by decide +kernel
theorem dX1_dropAll_41 : decode cX1_dropAll 41 = .ok (.goto (-36), 3) := by decide +kernel
theorem dX1_dropAll_44 : decode cX1_dropAll 44 = .ok (.aload_n 0, 1) := by decide +kernel
theorem dX1_dropAll_45 : decode cX1_dropAll 45 = .ok (.aconst_null, 1) := by decide +kernel
theorem dX1_dropAll_46 : decode cX1_dropAll 46 = .ok (.putfield 152, 3) := by decide +kernel
theorem dX1_dropAll_49 : decode cX1_dropAll 49 = .ok (.aload_n 0, 1) := by decide +kernel
theorem dX1_dropAll_50 : decode cX1_dropAll 50 = .ok (.aconst_null, 1) := by decide +kernel
theorem dX1_dropAll_51 : decode cX1_dropAll 51 = .ok (.putfield 148, 3) := by decide +kernel
theorem dX1_dropAll_54 : decode cX1_dropAll 54 = .ok (.return_, 1) := by decide +kernel
set_option maxRecDepth 100000 in
set_option maxHeartbeats 1000000 in
theorem l_X1_dropAll_11 {p : Program} {l : Launch} {e : Env} {s : State} {m : MethodId} {args : Array Value} {below : List Frame} {meth : Method} {c : Code} {D : va_G} {aC : Nat → ClassId} {b0 fu : Nat} {σ0 τ : tM} {v : Unit} {rc5 : Nat → Option Nat → tM → Option ((Unit) × tM)} (C : tCx p l s m args meth c yX1_dropAll.cls cX1_dropAll 3 none D aC b0 σ0) (htab : ∀ x ∈ c.exceptionTable.toList, False) (hin : meth.name = yX1_dropAll.name) (hrc5 : ∀ (x0 : Nat) (x1 : Option Nat) (ρ : tM), rc5 x0 x1 ρ = some (v, τ) → tX p l e s m args below meth c 3 1 21 D aC b0 σ0 (.inl none) τ 5 [(0, .ref (x0)), (1, va_rf (x1))] [] ρ) : ∀ (n : Nat) (x0 : Nat) (x1 : Option Nat) (x2 : Int32) (σ : tM), L_X1_dropAll_11 b0 fu rc5 n x0 x1 x2 σ = some (v, τ) → tX p l e s m args below meth c 3 1 21 D aC b0 σ0 (.inl none) τ 11 [(0, .ref (x0)), (1, va_rf (x1)), (2, .int (x2))] [] σ := by
  intro n
  induction n with
  | zero => intro x0 x1 x2 σ hm; unfold L_X1_dropAll_11 at hm; cases hm
  | succ n ih =>
    intro x0 x1 x2 σ hm
    unfold L_X1_dropAll_11 at hm
    obtain ⟨rc11, hrc⟩ : ∃ z, z = L_X1_dropAll_11 b0 fu rc5 n := ⟨_, rfl⟩
    replace hm := ltb_e hm hrc
    rw [← hrc] at ih
    have hrc11 := ih
    clear ih hrc
    refine zx_iload_n C dX1_dropAll_11 2 rfl ?_
    rcases omt_e hm with ⟨o7, h8, hm⟩ | ⟨h8, hm⟩
    · refine zx_lv [0, 1, 2] [(0, .ref (x0)), (1, .ref (o7)), (2, .int (x2))] (by rw [h8]; rfl) ?_
      refine zx_aload_n C dX1_dropAll_12 1 rfl ?_
      obtain ⟨k9, i10, hm⟩ := ckO_e hm
      obtain ⟨a11, h12, hm⟩ := osm_e hm
      refine zx_get (j := 5) C tC_7 k9 i10 ⟨by decide, Or.inr ⟨_, W_4_32⟩⟩ dX1_dropAll_13 (.ref a11) (rf_s h12) ?_
      obtain ⟨n15, k13, i14, hm⟩ := ckR_e hm
      refine zx_alen C k13 (by decide) i14 dX1_dropAll_16 ?_
      refine zx_icmp_ge C 36 dX1_dropAll_17 (by decide) (fun c16 => ?_) (fun c16 => ?_)
      · replace hm := ip_e hm c16
        refine zx_aload_n C dX1_dropAll_36 1 rfl ?_
        rcases omt_e hm with ⟨a17, h18, hm⟩ | ⟨h18, hm⟩
        · refine zx_get (j := 7) C tC_7 k9 i10 ⟨by decide, Or.inr ⟨_, W_4_35⟩⟩ dX1_dropAll_37 (.ref a17) (rf_s h18) ?_
          refine zx_astore_n C [(1, .ref (a17)), (0, .ref (x0)), (2, .int (x2))] dX1_dropAll_40 rfl (by decide) rfl ?_
          refine zx_goto C 5 dX1_dropAll_41 (by decide) ?_
          exact zx_lv [1, 0] [(0, .ref (x0)), (1, va_rf (some (a17)))] rfl (hrc5 _ _ _ hm)
        · refine zx_get (j := 7) C tC_7 k9 i10 ⟨by decide, Or.inr ⟨_, W_4_35⟩⟩ dX1_dropAll_37 .null (rf_n h18) ?_
          refine zx_astore_nN C [(1, .null), (0, .ref (x0)), (2, .int (x2))] dX1_dropAll_40 rfl (by decide) rfl ?_
          refine zx_goto C 5 dX1_dropAll_41 (by decide) ?_
          exact zx_lv [1, 0] [(0, .ref (x0)), (1, va_rf (none))] rfl (hrc5 _ _ _ hm)
      · replace hm := in_e hm c16
        refine zx_aload_n C dX1_dropAll_20 0 rfl ?_
        refine zx_aload_n C dX1_dropAll_21 1 rfl ?_
        obtain ⟨a19, h20, hm⟩ := osm_e hm
        refine zx_get (j := 5) C tC_7 k9 i10 ⟨by decide, Or.inr ⟨_, W_4_32⟩⟩ dX1_dropAll_22 (.ref a19) (rf_s h20) ?_
        refine zx_iload_n C dX1_dropAll_25 2 rfl ?_
        obtain ⟨n23, k21, i22, hm⟩ := ckR_e hm
        obtain ⟨h24, hm⟩ := ckI_e hm
        rcases omt_e hm with ⟨a25, h26, hm⟩ | ⟨h26, hm⟩
        · refine zx_aald C k21 i22 h24 dX1_dropAll_26 (.ref a25) (rf_s h26) ?_
          obtain ⟨k27, i28, hm⟩ := ckO_e hm
          obtain ⟨v29, ρ30, h31, hm⟩ := cll_e hm
          refine zx_callV (σ := σ) C [va_rf (some (a25))] tC_1 k27 i28 Y_X1_giveRow W_2_93 W_2_95 Wp_2 (c_X1_giveRow h31) (by decide) (by decide) rfl (Nat.le_of_ble_eq_true rfl) dX1_dropAll_27 rfl ?_
          obtain ⟨y32, hy32⟩ : ∃ z : Int32, z = (x2) + Int32.ofInt 1 := ⟨_, rfl⟩
          replace hm := ltb_e hm hy32
          refine zx_iinc C [(2, .int (y32)), (0, .ref (x0)), (1, .ref (o7))] dX1_dropAll_30 2 rfl hy32.symm (by decide) rfl ?_
          refine zx_goto C 11 dX1_dropAll_33 (by decide) ?_
          exact zx_lv [1, 2, 0] [(0, .ref (x0)), (1, va_rf (some (o7))), (2, .int (y32))] rfl (hrc11 _ _ _ _ hm)
        · refine zx_aald C k21 i22 h24 dX1_dropAll_26 .null (rf_n h26) ?_
          obtain ⟨k33, i34, hm⟩ := ckO_e hm
          obtain ⟨v35, ρ36, h37, hm⟩ := cll_e hm
          refine zx_callV (σ := σ) C [va_rf (none)] tC_1 k33 i34 Y_X1_giveRow W_2_93 W_2_95 Wp_2 (c_X1_giveRow h37) (by decide) (by decide) rfl (Nat.le_of_ble_eq_true rfl) dX1_dropAll_27 rfl ?_
          obtain ⟨y38, hy38⟩ : ∃ z : Int32, z = (x2) + Int32.ofInt 1 := ⟨_, rfl⟩
          replace hm := ltb_e hm hy38
          refine zx_iinc C [(2, .int (y38)), (0, .ref (x0)), (1, .ref (o7))] dX1_dropAll_30 2 rfl hy38.symm (by decide) rfl ?_
          refine zx_goto C 11 dX1_dropAll_33 (by decide) ?_
          exact zx_lv [1, 2, 0] [(0, .ref (x0)), (1, va_rf (some (o7))), (2, .int (y38))] rfl (hrc11 _ _ _ _ hm)
    · refine zx_lv [0, 1, 2] [(0, .ref (x0)), (1, .null), (2, .int (x2))] (by rw [h8]; rfl) ?_
      refine zx_aload_nN C dX1_dropAll_12 1 rfl ?_
      cases hm
set_option maxRecDepth 100000 in
set_option maxHeartbeats 1000000 in
theorem l_X1_dropAll_5 {p : Program} {l : Launch} {e : Env} {s : State} {m : MethodId} {args : Array Value} {below : List Frame} {meth : Method} {c : Code} {D : va_G} {aC : Nat → ClassId} {b0 fu : Nat} {σ0 τ : tM} {v : Unit}  (C : tCx p l s m args meth c yX1_dropAll.cls cX1_dropAll 3 none D aC b0 σ0) (htab : ∀ x ∈ c.exceptionTable.toList, False) (hin : meth.name = yX1_dropAll.name)  : ∀ (n : Nat) (x0 : Nat) (x1 : Option Nat) (σ : tM), L_X1_dropAll_5 b0 fu  n x0 x1 σ = some (v, τ) → tX p l e s m args below meth c 3 1 21 D aC b0 σ0 (.inl none) τ 5 [(0, .ref (x0)), (1, va_rf (x1))] [] σ := by
  intro n
  induction n with
  | zero => intro x0 x1 σ hm; unfold L_X1_dropAll_5 at hm; cases hm
  | succ n ih =>
    intro x0 x1 σ hm
    unfold L_X1_dropAll_5 at hm
    obtain ⟨rc5, hrc⟩ : ∃ z, z = L_X1_dropAll_5 b0 fu  n := ⟨_, rfl⟩
    replace hm := ltb_e hm hrc
    rw [← hrc] at ih
    have hrc5 := ih
    clear ih hrc
    rcases omt_e hm with ⟨o5, h6, hm⟩ | ⟨h6, hm⟩
    · refine zx_lv [0, 1] [(0, .ref (x0)), (1, .ref (o5))] (by rw [h6]; rfl) ?_
      refine zx_aload_n C dX1_dropAll_5 1 rfl ?_
      refine zx_ifnull C dX1_dropAll_6 ?_
      refine zx_iconst (v := 0) C dX1_dropAll_9 (by decide) ?_
      refine zx_istore_n C [(2, .int (0)), (0, .ref (x0)), (1, .ref (o5))] dX1_dropAll_10 rfl (by decide) rfl ?_
      exact zx_lv [1, 2, 0] [(0, .ref (x0)), (1, va_rf (some (o5))), (2, .int (0))] rfl (l_X1_dropAll_11 C htab hin hrc5 _ _ _ _ _ hm)
    · refine zx_lv [0, 1] [(0, .ref (x0)), (1, .null)] (by rw [h6]; rfl) ?_
      refine zx_aload_nN C dX1_dropAll_5 1 rfl ?_
      refine zx_ifnullN C 44 dX1_dropAll_6 (by decide) ?_
      refine zx_aload_n C dX1_dropAll_44 0 rfl ?_
      refine zx_null C dX1_dropAll_45 ?_
      obtain ⟨k39, i40, hm⟩ := ckO_e hm
      refine zx_put (j := 5) (ρ := sA (σ) (x0) 5 (none)) C tC_1 k39 i40 ⟨by decide, Or.inl W_1_185⟩ rfl rfl rfl (sA_ok (fun _ => rfl)) dX1_dropAll_46 ?_
      refine zx_aload_n C dX1_dropAll_49 0 rfl ?_
      refine zx_null C dX1_dropAll_50 ?_
      refine zx_put (j := 6) (ρ := sA (sA (σ) (x0) 5 (none)) (x0) 6 (none)) C tC_1 k39 i40 ⟨by decide, Or.inl W_1_186⟩ rfl rfl rfl (sA_ok (fun _ => rfl)) dX1_dropAll_51 ?_
      obtain ⟨rfl, rfl⟩ := ret_e hm
      exact zx_vret C rfl rfl rfl dX1_dropAll_54
set_option maxRecDepth 100000 in
set_option maxHeartbeats 1000000 in
theorem c_X1_dropAll {l : Launch} {D : va_G} {aC : Nat → ClassId} {b0 fu : Nat} {a0 : Nat} {σ τ : tM} {v : Unit} (hm : m_X1_dropAll b0 fu a0 σ = some (v, τ)) : tMt l D aC b0 yX1_dropAll (Cond.code yX1_dropAll cX1_dropAll 3 none) 1 21 [.ref (a0)] σ (.inl none) τ := by
  unfold m_X1_dropAll at hm
  obtain ⟨hg, hm⟩ := grw_e hm
  refine tMt_of (n := 0) rfl (Nat.le_of_ble_eq_true rfl) hg ?_
  intro p e s m below meth c C htab hin
  refine zx_lv [0] [(0, .ref (a0))] rfl ?_
  refine zx_aload_n C dX1_dropAll_0 0 rfl ?_
  obtain ⟨k1, i2, hm⟩ := ckO_e hm
  rcases omt_e hm with ⟨a3, h4, hm⟩ | ⟨h4, hm⟩
  · refine zx_get (j := 5) C tC_1 k1 i2 ⟨by decide, Or.inl W_1_185⟩ dX1_dropAll_1 (.ref a3) (rf_s h4) ?_
    refine zx_astore_n C [(1, .ref (a3)), (0, .ref (a0))] dX1_dropAll_4 rfl (by decide) rfl ?_
    exact zx_lv [1, 0] [(0, .ref (a0)), (1, va_rf (some (a3)))] rfl (l_X1_dropAll_5 C htab hin  _ _ _ _ hm)
  · refine zx_get (j := 5) C tC_1 k1 i2 ⟨by decide, Or.inl W_1_185⟩ dX1_dropAll_1 .null (rf_n h4) ?_
    refine zx_astore_nN C [(1, .null), (0, .ref (a0))] dX1_dropAll_4 rfl (by decide) rfl ?_
    exact zx_lv [1, 0] [(0, .ref (a0)), (1, va_rf (none))] rfl (l_X1_dropAll_5 C htab hin  _ _ _ _ hm)
abbrev cX1_isWhole : ByteArray := prog_3_method_22_code
def yX1_isWhole : MethodName := ⟨"SyncTree$Journal", "isWhole", "(LSyncTree$Transaction;)Z"⟩
theorem Y_X1_isWhole : tY yX1_isWhole cX1_isWhole 3 (some .boolean) 1 := ⟨W_6_136, W_1_5, ⟨by decide +kernel, by decide +kernel⟩, by decide +kernel⟩
theorem dX1_isWhole_0 : decode cX1_isWhole 0 = .ok (.iconst 0, 1) := by decide +kernel
theorem dX1_isWhole_1 : decode cX1_isWhole 1 = .ok (.istore_n 2, 1) := by decide +kernel
theorem dX1_isWhole_2 : decode cX1_isWhole 2 = .ok (.iload_n 2, 1) := by decide +kernel
theorem dX1_isWhole_3 : decode cX1_isWhole 3 = .ok (.aload_n 1, 1) := by decide +kernel
theorem dX1_isWhole_4 : decode cX1_isWhole 4 = .ok (.getfield 186, 3) := by decide +kernel
theorem dX1_isWhole_7 : decode cX1_isWhole 7 = .ok (.if_icmp .ge 38, 3) := by decide +kernel
theorem dX1_isWhole_10 : decode cX1_isWhole 10 = .ok (.aload_n 0, 1) := by decide +kernel
theorem dX1_isWhole_11 : decode cX1_isWhole 11 = .ok (.getfield 21, 3) := by decide +kernel
theorem dX1_isWhole_14 : decode cX1_isWhole 14 = .ok (.bipush 34, 2) := by decide +kernel
theorem dX1_isWhole_16 : decode cX1_isWhole 16 = .ok (.aload_n 0, 1) := by decide +kernel
theorem dX1_isWhole_17 : decode cX1_isWhole 17 = .ok (.aload_n 1, 1) := by decide +kernel
theorem dX1_isWhole_18 : decode cX1_isWhole 18 = .ok (.getfield 189, 3) := by decide +kernel
theorem dX1_isWhole_21 : decode cX1_isWhole 21 = .ok (.iload_n 2, 1) := by decide +kernel
theorem dX1_isWhole_22 : decode cX1_isWhole 22 = .ok (.iadd, 1) := by decide +kernel
theorem dX1_isWhole_23 : decode cX1_isWhole 23 = .ok (.invokevirtual 122, 3) := by decide +kernel
theorem dX1_isWhole_26 : decode cX1_isWhole 26 = .ok (.iadd, 1) := by decide +kernel
theorem dX1_isWhole_27 : decode cX1_isWhole 27 = .ok (.invokevirtual 212, 3) := by decide +kernel
theorem dX1_isWhole_30 : decode cX1_isWhole 30 = .ok (.aload_n 1, 1) := by decide +kernel
theorem dX1_isWhole_31 : decode cX1_isWhole 31 = .ok (.getfield 225, 3) := by decide +kernel
theorem dX1_isWhole_34 : decode cX1_isWhole 34 = .ok (.if_icmp .eq 5, 3) := by decide +kernel
theorem dX1_isWhole_37 : decode cX1_isWhole 37 = .ok (.iconst 0, 1) := by decide +kernel
theorem dX1_isWhole_38 : decode cX1_isWhole 38 = .ok (.ireturn, 1) := by decide +kernel
theorem dX1_isWhole_39 : decode cX1_isWhole 39 = .ok (.iinc 2 1, 3) := by decide +kernel
theorem dX1_isWhole_42 : decode cX1_isWhole 42 = .ok (.goto (-40), 3) := by decide +kernel
theorem dX1_isWhole_45 : decode cX1_isWhole 45 = .ok (.iconst 1, 1) := by decide +kernel
theorem dX1_isWhole_46 : decode cX1_isWhole 46 = .ok (.ireturn, 1) := by decide +kernel
set_option maxRecDepth 100000 in
set_option maxHeartbeats 1000000 in
theorem l_X1_isWhole_2 {p : Program} {l : Launch} {e : Env} {s : State} {m : MethodId} {args : Array Value} {below : List Frame} {meth : Method} {c : Code} {D : va_G} {aC : Nat → ClassId} {b0 fu : Nat} {σ0 τ : tM} {v : Int32}  (C : tCx p l s m args meth c yX1_isWhole.cls cX1_isWhole 3 (some .boolean) D aC b0 σ0) (htab : ∀ x ∈ c.exceptionTable.toList, False) (hin : meth.name = yX1_isWhole.name)  : ∀ (n : Nat) (x0 : Nat) (x1 : Option Nat) (x2 : Int32) (σ : tM), L_X1_isWhole_2 b0 fu  n x0 x1 x2 σ = some (v, τ) → tX p l e s m args below meth c 3 1 21 D aC b0 σ0 (.inl (some (.int v))) τ 2 [(0, .ref (x0)), (1, va_rf (x1)), (2, .int (x2))] [] σ := by
  intro n
  induction n with
  | zero => intro x0 x1 x2 σ hm; unfold L_X1_isWhole_2 at hm; cases hm
  | succ n ih =>
    intro x0 x1 x2 σ hm
    unfold L_X1_isWhole_2 at hm
    obtain ⟨rc2, hrc⟩ : ∃ z, z = L_X1_isWhole_2 b0 fu  n := ⟨_, rfl⟩
    replace hm := ltb_e hm hrc
    rw [← hrc] at ih
    have hrc2 := ih
    clear ih hrc
    refine zx_iload_n C dX1_isWhole_2 2 rfl ?_
    rcases omt_e hm with ⟨o1, h2, hm⟩ | ⟨h2, hm⟩
    · refine zx_lv [0, 1, 2] [(0, .ref (x0)), (1, .ref (o1)), (2, .int (x2))] (by rw [h2]; rfl) ?_
      refine zx_aload_n C dX1_isWhole_3 1 rfl ?_
      obtain ⟨k3, i4, hm⟩ := ckO_e hm
      refine zx_get (j := 3) C tC_7 k3 i4 ⟨by decide, Or.inr ⟨_, W_4_28⟩⟩ dX1_isWhole_4 (.int (tI (σ) (o1) 3)) rfl ?_
      refine zx_icmp_ge C 45 dX1_isWhole_7 (by decide) (fun c5 => ?_) (fun c5 => ?_)
      · replace hm := ip_e hm c5
        refine zx_iconst (v := 1) C dX1_isWhole_45 (by decide) ?_
        obtain ⟨rfl, rfl⟩ := ret_e hm
        exact zx_zret C rfl (by decide) rfl rfl dX1_isWhole_46
      · replace hm := in_e hm c5
        refine zx_aload_n C dX1_isWhole_10 0 rfl ?_
        obtain ⟨k6, i7, hm⟩ := ckO_e hm
        obtain ⟨a8, h9, hm⟩ := osm_e hm
        refine zx_get (j := 0) C tC_1 k6 i7 ⟨by decide, Or.inl W_1_180⟩ dX1_isWhole_11 (.ref a8) (rf_s h9) ?_
        refine zx_bipush (v := 34) C dX1_isWhole_14 (by decide) ?_
        refine zx_aload_n C dX1_isWhole_16 0 rfl ?_
        refine zx_aload_n C dX1_isWhole_17 1 rfl ?_
        refine zx_get (j := 2) C tC_7 k3 i4 ⟨by decide, Or.inr ⟨_, W_4_26⟩⟩ dX1_isWhole_18 (.int (tI (σ) (o1) 2)) rfl ?_
        refine zx_iload_n C dX1_isWhole_21 2 rfl ?_
        refine zx_iadd C dX1_isWhole_22 ?_
        obtain ⟨v10, ρ11, h12, hm⟩ := cll_e hm
        refine zx_callV (σ := σ) C [.int ((tI (σ) (o1) 2) + (x2))] tC_1 k6 i7 Y_X1_wrap W_3_224 W_3_226 Wp_16 (c_X1_wrap h12) (by decide) (by decide) rfl (Nat.le_of_ble_eq_true rfl) dX1_isWhole_23 rfl ?_
        refine zx_iadd C dX1_isWhole_26 ?_
        obtain ⟨k13, i14, hm⟩ := ckO_e hm
        obtain ⟨v15, ρ16, h17, hm⟩ := cll_e hm
        refine zx_callV (σ := ρ11) C [.int ((34) + (v10))] tC_0 k13 i14 Y_X0_tagOf W_6_125 W_6_126 W_6_127 (c_X0_tagOf h17) (by decide) (by decide) rfl (Nat.le_of_ble_eq_true rfl) dX1_isWhole_27 rfl ?_
        refine zx_aload_n C dX1_isWhole_30 1 rfl ?_
        obtain ⟨k18, i19, hm⟩ := ckO_e hm
        refine zx_get (j := 1) C tC_7 k18 i19 ⟨by decide, Or.inr ⟨_, W_4_24⟩⟩ dX1_isWhole_31 (.int (tI (ρ16) (o1) 1)) rfl ?_
        refine zx_icmp_eq C 39 dX1_isWhole_34 (by decide) (fun c20 => ?_) (fun c20 => ?_)
        · replace hm := ip_e hm c20
          obtain ⟨y21, hy21⟩ : ∃ z : Int32, z = (x2) + Int32.ofInt 1 := ⟨_, rfl⟩
          replace hm := ltb_e hm hy21
          refine zx_iinc C [(2, .int (y21)), (0, .ref (x0)), (1, .ref (o1))] dX1_isWhole_39 2 rfl hy21.symm (by decide) rfl ?_
          refine zx_goto C 2 dX1_isWhole_42 (by decide) ?_
          exact zx_lv [1, 2, 0] [(0, .ref (x0)), (1, va_rf (some (o1))), (2, .int (y21))] rfl (hrc2 _ _ _ _ hm)
        · replace hm := in_e hm c20
          refine zx_iconst (v := 0) C dX1_isWhole_37 (by decide) ?_
          obtain ⟨rfl, rfl⟩ := ret_e hm
          exact zx_zret C rfl (by decide) rfl rfl dX1_isWhole_38
    · refine zx_lv [0, 1, 2] [(0, .ref (x0)), (1, .null), (2, .int (x2))] (by rw [h2]; rfl) ?_
      refine zx_aload_nN C dX1_isWhole_3 1 rfl ?_
      cases hm
set_option maxRecDepth 100000 in
set_option maxHeartbeats 1000000 in
theorem c_X1_isWhole {l : Launch} {D : va_G} {aC : Nat → ClassId} {b0 fu : Nat} {a0 : Nat} {p0 : Nat} {σ τ : tM} {v : Int32} (hm : m_X1_isWhole b0 fu a0 p0 σ = some (v, τ)) : tMt l D aC b0 yX1_isWhole (Cond.code yX1_isWhole cX1_isWhole 3 (some .boolean)) 1 21 [.ref (a0), .ref (p0)] σ (.inl (some (.int v))) τ := by
  unfold m_X1_isWhole at hm
  obtain ⟨hg, hm⟩ := grw_e hm
  refine tMt_of (n := 0) rfl (Nat.le_of_ble_eq_true rfl) hg ?_
  intro p e s m below meth c C htab hin
  refine zx_lv [0, 1] [(0, .ref (a0)), (1, .ref (p0))] rfl ?_
  refine zx_iconst (v := 0) C dX1_isWhole_0 (by decide) ?_
  refine zx_istore_n C [(2, .int (0)), (0, .ref (a0)), (1, .ref (p0))] dX1_isWhole_1 rfl (by decide) rfl ?_
  exact zx_lv [1, 2, 0] [(0, .ref (a0)), (1, va_rf (some (p0))), (2, .int (0))] rfl (l_X1_isWhole_2 C htab hin  _ _ _ _ _ hm)
abbrev cX1_setMarks : ByteArray := prog_3_method_24_code
def yX1_setMarks : MethodName := ⟨"SyncTree$Journal", "setMarks", "([II)V"⟩
theorem Y_X1_setMarks : tY yX1_setMarks cX1_setMarks 4 none 2 := ⟨W_6_145, W_1_5, ⟨by decide +kernel, by decide +kernel⟩, by decide +kernel⟩
theorem dX1_setMarks_0 : decode cX1_setMarks 0 = .ok (.iconst 0, 1) := by decide +kernel
theorem dX1_setMarks_1 : decode cX1_setMarks 1 = .ok (.istore_n 3, 1) := by decide +kernel
theorem dX1_setMarks_2 : decode cX1_setMarks 2 = .ok (.iload_n 3, 1) := by decide +kernel
theorem dX1_setMarks_3 : decode cX1_setMarks 3 = .ok (.aload_n 1, 1) := by decide +kernel
theorem dX1_setMarks_4 : decode cX1_setMarks 4 = .ok (.arraylength, 1) := by decide +kernel
theorem dX1_setMarks_5 : decode cX1_setMarks 5 = .ok (.if_icmp .ge 34, 3) := by decide +kernel
theorem dX1_setMarks_8 : decode cX1_setMarks 8 = .ok (.aload_n 1, 1) := by decide +kernel
theorem dX1_setMarks_9 : decode cX1_setMarks 9 = .ok (.iload_n 3, 1) := by decide +kernel
theorem dX1_setMarks_10 : decode cX1_setMarks 10 = .ok (.iaload, 1) := by decide +kernel
theorem dX1_setMarks_11 : decode cX1_setMarks 11 = .ok (.ifCond .lt 22, 3) := by decide +kernel
theorem dX1_setMarks_14 : decode cX1_setMarks 14 = .ok (.aload_n 1, 1) := by decide +kernel
theorem dX1_setMarks_15 : decode cX1_setMarks 15 = .ok (.iload_n 3, 1) := by decide +kernel
theorem dX1_setMarks_16 : decode cX1_setMarks 16 = .ok (.iaload, 1) := by decide +kernel
theorem dX1_setMarks_17 : decode cX1_setMarks 17 = .ok (.sipush 2034, 3) := by decide +kernel
theorem dX1_setMarks_20 : decode cX1_setMarks 20 = .ok (.if_icmp .ge 13, 3) := by decide +kernel
theorem dX1_setMarks_23 : decode cX1_setMarks 23 = .ok (.aload_n 0, 1) := by decide +kernel
theorem dX1_setMarks_24 : decode cX1_setMarks 24 = .ok (.getfield 17, 3) := by decide +kernel
theorem dX1_setMarks_27 : decode cX1_setMarks 27 = .ok (.aload_n 1, 1) := by decide +kernel
theorem dX1_setMarks_28 : decode cX1_setMarks 28 = .ok (.iload_n 3, 1) := by decide +kernel
theorem dX1_setMarks_29 : decode cX1_setMarks 29 = .ok (.iaload, 1) := by decide +kernel
theorem dX1_setMarks_30 : decode cX1_setMarks 30 = .ok (.iload_n 2, 1) := by decide +kernel
theorem dX1_setMarks_31 : decode cX1_setMarks 31 = .ok (.i2b, 1) := by decide +kernel
theorem dX1_setMarks_32 : decode cX1_setMarks 32 = .ok (.bastore, 1) := by decide +kernel
theorem dX1_setMarks_33 : decode cX1_setMarks 33 = .ok (.iinc 3 1, 3) := by decide +kernel
theorem dX1_setMarks_36 : decode cX1_setMarks 36 = .ok (.goto (-34), 3) := by decide +kernel
theorem dX1_setMarks_39 : decode cX1_setMarks 39 = .ok (.return_, 1) := by decide +kernel
set_option maxRecDepth 100000 in
set_option maxHeartbeats 1000000 in
theorem j_X1_setMarks_33 {p : Program} {l : Launch} {e : Env} {s : State} {m : MethodId} {args : Array Value} {below : List Frame} {meth : Method} {c : Code} {D : va_G} {aC : Nat → ClassId} {b0 fu : Nat} {σ0 τ : tM} {v : Unit} {rc2 : Nat → Nat → Int32 → Int32 → tM → Option ((Unit) × tM)} (C : tCx p l s m args meth c yX1_setMarks.cls cX1_setMarks 4 none D aC b0 σ0) (htab : ∀ x ∈ c.exceptionTable.toList, False) (hin : meth.name = yX1_setMarks.name) (hrc2 : ∀ (x0 : Nat) (x1 : Nat) (x2 : Int32) (x3 : Int32) (ρ : tM), rc2 x0 x1 x2 x3 ρ = some (v, τ) → tX p l e s m args below meth c 4 0 0 D aC b0 σ0 (.inl none) τ 2 [(0, .ref (x0)), (1, .ref (x1)), (2, .int (x2)), (3, .int (x3))] [] ρ) {x0 : Nat} {x1 : Nat} {x2 : Int32} {x3 : Int32} {σ : tM} (hm : J_X1_setMarks_33 b0 fu rc2 x0 x1 x2 x3 σ = some (v, τ)) : tX p l e s m args below meth c 4 0 0 D aC b0 σ0 (.inl none) τ 33 [(0, .ref (x0)), (1, .ref (x1)), (2, .int (x2)), (3, .int (x3))] [] σ := by
  unfold J_X1_setMarks_33 at hm
  obtain ⟨y7, hy7⟩ : ∃ z : Int32, z = (x3) + Int32.ofInt 1 := ⟨_, rfl⟩
  replace hm := ltb_e hm hy7
  refine zx_iinc C [(3, .int (y7)), (0, .ref (x0)), (1, .ref (x1)), (2, .int (x2))] dX1_setMarks_33 3 rfl hy7.symm (by decide) rfl ?_
  refine zx_goto C 2 dX1_setMarks_36 (by decide) ?_
  exact zx_lv [1, 2, 3, 0] [(0, .ref (x0)), (1, .ref (x1)), (2, .int (x2)), (3, .int (y7))] rfl (hrc2 _ _ _ _ _ hm)
set_option maxRecDepth 100000 in
set_option maxHeartbeats 1000000 in
theorem l_X1_setMarks_2 {p : Program} {l : Launch} {e : Env} {s : State} {m : MethodId} {args : Array Value} {below : List Frame} {meth : Method} {c : Code} {D : va_G} {aC : Nat → ClassId} {b0 fu : Nat} {σ0 τ : tM} {v : Unit}  (C : tCx p l s m args meth c yX1_setMarks.cls cX1_setMarks 4 none D aC b0 σ0) (htab : ∀ x ∈ c.exceptionTable.toList, False) (hin : meth.name = yX1_setMarks.name)  : ∀ (n : Nat) (x0 : Nat) (x1 : Nat) (x2 : Int32) (x3 : Int32) (σ : tM), L_X1_setMarks_2 b0 fu  n x0 x1 x2 x3 σ = some (v, τ) → tX p l e s m args below meth c 4 0 0 D aC b0 σ0 (.inl none) τ 2 [(0, .ref (x0)), (1, .ref (x1)), (2, .int (x2)), (3, .int (x3))] [] σ := by
  intro n
  induction n with
  | zero => intro x0 x1 x2 x3 σ hm; unfold L_X1_setMarks_2 at hm; cases hm
  | succ n ih =>
    intro x0 x1 x2 x3 σ hm
    unfold L_X1_setMarks_2 at hm
    obtain ⟨rc2, hrc⟩ : ∃ z, z = L_X1_setMarks_2 b0 fu  n := ⟨_, rfl⟩
    replace hm := ltb_e hm hrc
    rw [← hrc] at ih
    have hrc2 := ih
    clear ih hrc
    refine zx_iload_n C dX1_setMarks_2 3 rfl ?_
    refine zx_aload_n C dX1_setMarks_3 1 rfl ?_
    obtain ⟨n3, k1, i2, hm⟩ := ckR_e hm
    refine zx_alen C k1 (by decide) i2 dX1_setMarks_4 ?_
    refine zx_icmp_ge C 39 dX1_setMarks_5 (by decide) (fun c4 => ?_) (fun c4 => ?_)
    · replace hm := ip_e hm c4
      obtain ⟨rfl, rfl⟩ := ret_e hm
      exact zx_vret C rfl rfl rfl dX1_setMarks_39
    · replace hm := in_e hm c4
      refine zx_aload_n C dX1_setMarks_8 1 rfl ?_
      refine zx_iload_n C dX1_setMarks_9 3 rfl ?_
      obtain ⟨h5, hm⟩ := ckI_e hm
      refine zx_iald C k1 i2 h5 dX1_setMarks_10 ?_
      refine zx_if_lt C 33 dX1_setMarks_11 (by decide) (fun c6 => ?_) (fun c6 => ?_)
      · replace hm := ip_e hm c6
        exact zx_lv [0, 1, 2, 3] [(0, .ref (x0)), (1, .ref (x1)), (2, .int (x2)), (3, .int (x3))] rfl (j_X1_setMarks_33 C htab hin hrc2   hm)
      · replace hm := in_e hm c6
        refine zx_aload_n C dX1_setMarks_14 1 rfl ?_
        refine zx_iload_n C dX1_setMarks_15 3 rfl ?_
        obtain ⟨h8, hm⟩ := ckI_e hm
        refine zx_iald C k1 i2 h8 dX1_setMarks_16 ?_
        refine zx_sipush (v := 2034) C dX1_setMarks_17 (by decide) ?_
        refine zx_icmp_ge C 33 dX1_setMarks_20 (by decide) (fun c9 => ?_) (fun c9 => ?_)
        · replace hm := ip_e hm c9
          exact zx_lv [0, 1, 2, 3] [(0, .ref (x0)), (1, .ref (x1)), (2, .int (x2)), (3, .int (x3))] rfl (j_X1_setMarks_33 C htab hin hrc2   hm)
        · replace hm := in_e hm c9
          refine zx_aload_n C dX1_setMarks_23 0 rfl ?_
          obtain ⟨k10, i11, hm⟩ := ckO_e hm
          obtain ⟨a12, h13, hm⟩ := osm_e hm
          refine zx_get (j := 4) C tC_1 k10 i11 ⟨by decide, Or.inl W_1_184⟩ dX1_setMarks_24 (.ref a12) (rf_s h13) ?_
          refine zx_aload_n C dX1_setMarks_27 1 rfl ?_
          refine zx_iload_n C dX1_setMarks_28 3 rfl ?_
          obtain ⟨h14, hm⟩ := ckI_e hm
          refine zx_iald C k1 i2 h14 dX1_setMarks_29 ?_
          refine zx_iload_n C dX1_setMarks_30 2 rfl ?_
          refine zx_i2b C dX1_setMarks_31 ?_
          obtain ⟨n17, k15, i16, hm⟩ := ckR_e hm
          obtain ⟨h18, hm⟩ := ckI_e hm
          refine zx_bast C k15 i16 h18 dX1_setMarks_32 ?_
          exact zx_lv [0, 1, 2, 3] [(0, .ref (x0)), (1, .ref (x1)), (2, .int (x2)), (3, .int (x3))] rfl (j_X1_setMarks_33 C htab hin hrc2   hm)
set_option maxRecDepth 100000 in
set_option maxHeartbeats 1000000 in
theorem c_X1_setMarks {l : Launch} {D : va_G} {aC : Nat → ClassId} {b0 fu : Nat} {a0 : Nat} {p0 : Nat} {p1 : Int32} {σ τ : tM} {v : Unit} (hm : m_X1_setMarks b0 fu a0 p0 p1 σ = some (v, τ)) : tMt l D aC b0 yX1_setMarks (Cond.code yX1_setMarks cX1_setMarks 4 none) 0 0 [.ref (a0), .ref (p0), .int (p1)] σ (.inl none) τ := by
  unfold m_X1_setMarks at hm
  obtain ⟨hg, hm⟩ := grw_e hm
  refine tMt_of (n := 0) rfl (Nat.le_of_ble_eq_true rfl) hg ?_
  intro p e s m below meth c C htab hin
  refine zx_lv [0, 1, 2] [(0, .ref (a0)), (1, .ref (p0)), (2, .int (p1))] rfl ?_
  refine zx_iconst (v := 0) C dX1_setMarks_0 (by decide) ?_
  refine zx_istore_n C [(3, .int (0)), (0, .ref (a0)), (1, .ref (p0)), (2, .int (p1))] dX1_setMarks_1 rfl (by decide) rfl ?_
  exact zx_lv [1, 2, 3, 0] [(0, .ref (a0)), (1, .ref (p0)), (2, .int (p1)), (3, .int (0))] rfl (l_X1_setMarks_2 C htab hin  _ _ _ _ _ _ hm)
abbrev cX1_figure : ByteArray := prog_3_method_25_code
def yX1_figure : MethodName := ⟨"SyncTree$Journal", "figure", "(I)I"⟩
theorem Y_X1_figure : tY yX1_figure cX1_figure 2 (some .int) 1 := ⟨W_3_99, W_1_5, ⟨by decide +kernel, by decide +kernel⟩, by decide +kernel⟩
theorem dX1_figure_0 : decode cX1_figure 0 = .ok (.iload_n 1, 1) := by decide +kernel
theorem dX1_figure_1 : decode cX1_figure 1 = .ok (.tableswitch 74 12 17 #[39, 44, 49, 54, 59, 64], 39) := by decide +kernel
theorem dX1_figure_40 : decode cX1_figure 40 = .ok (.aload_n 0, 1) := by decide +kernel
theorem dX1_figure_41 : decode cX1_figure 41 = .ok (.getfield 66, 3) := by decide +kernel
theorem dX1_figure_44 : decode cX1_figure 44 = .ok (.ireturn, 1) := by decide +kernel
theorem dX1_figure_45 : decode cX1_figure 45 = .ok (.aload_n 0, 1) := by decide +kernel
theorem dX1_figure_46 : decode cX1_figure 46 = .ok (.getfield 69, 3) := by decide +kernel
theorem dX1_figure_49 : decode cX1_figure 49 = .ok (.ireturn, 1) := by decide +kernel
theorem dX1_figure_50 : decode cX1_figure 50 = .ok (.aload_n 0, 1) := by decide +kernel
theorem dX1_figure_51 : decode cX1_figure 51 = .ok (.getfield 72, 3) := by decide +kernel
theorem dX1_figure_54 : decode cX1_figure 54 = .ok (.ireturn, 1) := by decide +kernel
theorem dX1_figure_55 : decode cX1_figure 55 = .ok (.aload_n 0, 1) := by decide +kernel
theorem dX1_figure_56 : decode cX1_figure 56 = .ok (.getfield 75, 3) := by decide +kernel
theorem dX1_figure_59 : decode cX1_figure 59 = .ok (.ireturn, 1) := by decide +kernel
theorem dX1_figure_60 : decode cX1_figure 60 = .ok (.aload_n 0, 1) := by decide +kernel
theorem dX1_figure_61 : decode cX1_figure 61 = .ok (.getfield 78, 3) := by decide +kernel
theorem dX1_figure_64 : decode cX1_figure 64 = .ok (.ireturn, 1) := by decide +kernel
theorem dX1_figure_65 : decode cX1_figure 65 = .ok (.aload_n 0, 1) := by decide +kernel
theorem dX1_figure_66 : decode cX1_figure 66 = .ok (.getfield 46, 3) := by decide +kernel
theorem dX1_figure_69 : decode cX1_figure 69 = .ok (.aload_n 0, 1) := by decide +kernel
theorem dX1_figure_70 : decode cX1_figure 70 = .ok (.getfield 81, 3) := by decide +kernel
theorem dX1_figure_73 : decode cX1_figure 73 = .ok (.isub, 1) := by decide +kernel
theorem dX1_figure_74 : decode cX1_figure 74 = .ok (.ireturn, 1) := by decide +kernel
theorem dX1_figure_75 : decode cX1_figure 75 = .ok (.aload_n 0, 1) := by decide +kernel
theorem dX1_figure_76 : decode cX1_figure 76 = .ok (.getfield 84, 3) := by decide +kernel
theorem dX1_figure_79 : decode cX1_figure 79 = .ok (.ireturn, 1) := by decide +kernel
set_option maxRecDepth 100000 in
set_option maxHeartbeats 1000000 in
theorem c_X1_figure {l : Launch} {D : va_G} {aC : Nat → ClassId} {b0 fu : Nat} {a0 : Nat} {p0 : Int32} {σ τ : tM} {v : Int32} (hm : m_X1_figure b0 fu a0 p0 σ = some (v, τ)) : tMt l D aC b0 yX1_figure (Cond.code yX1_figure cX1_figure 2 (some .int)) 0 0 [.ref (a0), .int (p0)] σ (.inl (some (.int v))) τ := by
  unfold m_X1_figure at hm
  obtain ⟨hg, hm⟩ := grw_e hm
  refine tMt_of (n := 0) rfl (Nat.le_of_ble_eq_true rfl) hg ?_
  intro p e s m below meth c C htab hin
  refine zx_lv [0, 1] [(0, .ref (a0)), (1, .int (p0))] rfl ?_
  refine zx_iload_n C dX1_figure_0 1 rfl ?_
  rcases Classical.em ((p0) = (12)) with c1_12 | c1_12
  · replace hm := ip_e hm c1_12
    refine zx_tabIn (off := 39) C 40 dX1_figure_1 (by rw [c1_12]; decide) (by rw [c1_12]; decide) (by rw [c1_12]; decide) (by decide) ?_
    refine zx_aload_n C dX1_figure_40 0 rfl ?_
    obtain ⟨k1, i2, hm⟩ := ckO_e hm
    refine zx_get (j := 12) C tC_1 k1 i2 ⟨by decide, Or.inl W_1_192⟩ dX1_figure_41 (.int (tI (σ) (a0) 12)) rfl ?_
    obtain ⟨rfl, rfl⟩ := ret_e hm
    exact zx_iret C rfl rfl rfl dX1_figure_44
  · replace hm := in_e hm c1_12
    rcases Classical.em ((p0) = (13)) with c1_13 | c1_13
    · replace hm := ip_e hm c1_13
      refine zx_tabIn (off := 44) C 45 dX1_figure_1 (by rw [c1_13]; decide) (by rw [c1_13]; decide) (by rw [c1_13]; decide) (by decide) ?_
      refine zx_aload_n C dX1_figure_45 0 rfl ?_
      obtain ⟨k3, i4, hm⟩ := ckO_e hm
      refine zx_get (j := 13) C tC_1 k3 i4 ⟨by decide, Or.inl W_1_193⟩ dX1_figure_46 (.int (tI (σ) (a0) 13)) rfl ?_
      obtain ⟨rfl, rfl⟩ := ret_e hm
      exact zx_iret C rfl rfl rfl dX1_figure_49
    · replace hm := in_e hm c1_13
      rcases Classical.em ((p0) = (14)) with c1_14 | c1_14
      · replace hm := ip_e hm c1_14
        refine zx_tabIn (off := 49) C 50 dX1_figure_1 (by rw [c1_14]; decide) (by rw [c1_14]; decide) (by rw [c1_14]; decide) (by decide) ?_
        refine zx_aload_n C dX1_figure_50 0 rfl ?_
        obtain ⟨k5, i6, hm⟩ := ckO_e hm
        refine zx_get (j := 14) C tC_1 k5 i6 ⟨by decide, Or.inl W_1_194⟩ dX1_figure_51 (.int (tI (σ) (a0) 14)) rfl ?_
        obtain ⟨rfl, rfl⟩ := ret_e hm
        exact zx_iret C rfl rfl rfl dX1_figure_54
      · replace hm := in_e hm c1_14
        rcases Classical.em ((p0) = (15)) with c1_15 | c1_15
        · replace hm := ip_e hm c1_15
          refine zx_tabIn (off := 54) C 55 dX1_figure_1 (by rw [c1_15]; decide) (by rw [c1_15]; decide) (by rw [c1_15]; decide) (by decide) ?_
          refine zx_aload_n C dX1_figure_55 0 rfl ?_
          obtain ⟨k7, i8, hm⟩ := ckO_e hm
          refine zx_get (j := 15) C tC_1 k7 i8 ⟨by decide, Or.inl W_1_195⟩ dX1_figure_56 (.int (tI (σ) (a0) 15)) rfl ?_
          obtain ⟨rfl, rfl⟩ := ret_e hm
          exact zx_iret C rfl rfl rfl dX1_figure_59
        · replace hm := in_e hm c1_15
          rcases Classical.em ((p0) = (16)) with c1_16 | c1_16
          · replace hm := ip_e hm c1_16
            refine zx_tabIn (off := 59) C 60 dX1_figure_1 (by rw [c1_16]; decide) (by rw [c1_16]; decide) (by rw [c1_16]; decide) (by decide) ?_
            refine zx_aload_n C dX1_figure_60 0 rfl ?_
            obtain ⟨k9, i10, hm⟩ := ckO_e hm
            refine zx_get (j := 16) C tC_1 k9 i10 ⟨by decide, Or.inl W_1_196⟩ dX1_figure_61 (.int (tI (σ) (a0) 16)) rfl ?_
            obtain ⟨rfl, rfl⟩ := ret_e hm
            exact zx_iret C rfl rfl rfl dX1_figure_64
          · replace hm := in_e hm c1_16
            rcases Classical.em ((p0) = (17)) with c1_17 | c1_17
            · replace hm := ip_e hm c1_17
              refine zx_tabIn (off := 64) C 65 dX1_figure_1 (by rw [c1_17]; decide) (by rw [c1_17]; decide) (by rw [c1_17]; decide) (by decide) ?_
              refine zx_aload_n C dX1_figure_65 0 rfl ?_
              obtain ⟨k11, i12, hm⟩ := ckO_e hm
              refine zx_get (j := 8) C tC_1 k11 i12 ⟨by decide, Or.inl W_1_188⟩ dX1_figure_66 (.int (tI (σ) (a0) 8)) rfl ?_
              refine zx_aload_n C dX1_figure_69 0 rfl ?_
              refine zx_get (j := 9) C tC_1 k11 i12 ⟨by decide, Or.inl W_1_189⟩ dX1_figure_70 (.int (tI (σ) (a0) 9)) rfl ?_
              refine zx_isub C dX1_figure_73 ?_
              obtain ⟨rfl, rfl⟩ := ret_e hm
              exact zx_iret C rfl rfl rfl dX1_figure_74
            · replace hm := in_e hm c1_17
              have g1_12 : (p0).toInt ≠ 12 := fun e9 => c1_12 (Int32.toInt_inj.mp (e9.trans (by decide)))
              have g1_13 : (p0).toInt ≠ 13 := fun e9 => c1_13 (Int32.toInt_inj.mp (e9.trans (by decide)))
              have g1_14 : (p0).toInt ≠ 14 := fun e9 => c1_14 (Int32.toInt_inj.mp (e9.trans (by decide)))
              have g1_15 : (p0).toInt ≠ 15 := fun e9 => c1_15 (Int32.toInt_inj.mp (e9.trans (by decide)))
              have g1_16 : (p0).toInt ≠ 16 := fun e9 => c1_16 (Int32.toInt_inj.mp (e9.trans (by decide)))
              have g1_17 : (p0).toInt ≠ 17 := fun e9 => c1_17 (Int32.toInt_inj.mp (e9.trans (by decide)))
              refine zx_tabOut C 75 dX1_figure_1 (by omega) (by decide) ?_
              refine zx_aload_n C dX1_figure_75 0 rfl ?_
              obtain ⟨k13, i14, hm⟩ := ckO_e hm
              refine zx_get (j := 10) C tC_1 k13 i14 ⟨by decide, Or.inl W_1_190⟩ dX1_figure_76 (.int (tI (σ) (a0) 10)) rfl ?_
              obtain ⟨rfl, rfl⟩ := ret_e hm
              exact zx_iret C rfl rfl rfl dX1_figure_79
abbrev cX2_init : ByteArray := prog_4_method_1_code
def yX2_init : MethodName := ⟨"SyncTree$Loader", "<init>", "(LSyncTree$Disk;LSyncTree$Space;LSyncTree$Tree;LSyncTree$Journal;)V"⟩
theorem Y_X2_init : tY yX2_init cX2_init 5 none 4 := ⟨W_1_239, W_1_6, ⟨by decide +kernel, by decide +kernel⟩, by decide +kernel⟩
theorem dX2_init_0 : decode cX2_init 0 = .ok (.aload_n 0, 1) := by decide +kernel
theorem dX2_init_1 : decode cX2_init 1 = .ok (.invokespecial 3, 3) := by decide +kernel
theorem dX2_init_4 : decode cX2_init 4 = .ok (.aload_n 0, 1) := by decide +kernel
theorem dX2_init_5 : decode cX2_init 5 = .ok (.aload_n 1, 1) := by decide +kernel
theorem dX2_init_6 : decode cX2_init 6 = .ok (.putfield 9, 3) := by decide +kernel
theorem dX2_init_9 : decode cX2_init 9 = .ok (.aload_n 0, 1) := by decide +kernel
theorem dX2_init_10 : decode cX2_init 10 = .ok (.aload_n 2, 1) := by decide +kernel
theorem dX2_init_11 : decode cX2_init 11 = .ok (.putfield 15, 3) := by decide +kernel
theorem dX2_init_14 : decode cX2_init 14 = .ok (.aload_n 0, 1) := by decide +kernel
theorem dX2_init_15 : decode cX2_init 15 = .ok (.aload_n 3, 1) := by decide +kernel
theorem dX2_init_16 : decode cX2_init 16 = .ok (.putfield 19, 3) := by decide +kernel
theorem dX2_init_19 : decode cX2_init 19 = .ok (.aload_n 0, 1) := by decide +kernel
theorem dX2_init_20 : decode cX2_init 20 = .ok (.aload 4, 2) := by decide +kernel
theorem dX2_init_22 : decode cX2_init 22 = .ok (.putfield 23, 3) := by decide +kernel
theorem dX2_init_25 : decode cX2_init 25 = .ok (.return_, 1) := by decide +kernel
set_option maxRecDepth 100000 in
set_option maxHeartbeats 1000000 in
theorem c_X2_init {l : Launch} {D : va_G} {aC : Nat → ClassId} {b0 fu : Nat} {a0 : Nat} {p0 : Nat} {p1 : Nat} {p2 : Nat} {p3 : Nat} {σ τ : tM} {v : Unit} (hm : m_X2_init b0 fu a0 p0 p1 p2 p3 σ = some (v, τ)) : tMt l D aC b0 yX2_init (Cond.code yX2_init cX2_init 5 none) 1 20 [.ref (a0), .ref (p0), .ref (p1), .ref (p2), .ref (p3)] σ (.inl none) τ := by
  unfold m_X2_init at hm
  obtain ⟨hg, hm⟩ := grw_e hm
  refine tMt_of (n := 0) rfl (Nat.le_of_ble_eq_true rfl) hg ?_
  intro p e s m below meth c C htab hin
  refine zx_lv [0, 1, 2, 3, 4] [(0, .ref (a0)), (1, .ref (p0)), (2, .ref (p1)), (3, .ref (p2)), (4, .ref (p3))] rfl ?_
  refine zx_aload_n C dX2_init_0 0 rfl ?_
  refine zx_obj C W_2_0 W_1_26 W_1_27 (by decide) (by decide) (Nat.le_of_ble_eq_true rfl) dX2_init_1 ?_
  refine zx_aload_n C dX2_init_4 0 rfl ?_
  refine zx_aload_n C dX2_init_5 1 rfl ?_
  obtain ⟨k1, i2, hm⟩ := ckO_e hm
  refine zx_putF (j := 0) (ρ := sA (σ) (a0) 0 (some (p0))) C hin tC_2 k1 i2 (by decide) W_2_1 rfl rfl rfl rfl (sA_ok (fun _ => rfl)) dX2_init_6 ?_
  refine zx_aload_n C dX2_init_9 0 rfl ?_
  refine zx_aload_n C dX2_init_10 2 rfl ?_
  refine zx_putF (j := 1) (ρ := sA (sA (σ) (a0) 0 (some (p0))) (a0) 1 (some (p1))) C hin tC_2 k1 i2 (by decide) W_2_2 rfl rfl rfl rfl (sA_ok (fun _ => rfl)) dX2_init_11 ?_
  refine zx_aload_n C dX2_init_14 0 rfl ?_
  refine zx_aload_n C dX2_init_15 3 rfl ?_
  refine zx_putF (j := 2) (ρ := sA (sA (sA (σ) (a0) 0 (some (p0))) (a0) 1 (some (p1))) (a0) 2 (some (p2))) C hin tC_2 k1 i2 (by decide) W_2_3 rfl rfl rfl rfl (sA_ok (fun _ => rfl)) dX2_init_16 ?_
  refine zx_aload_n C dX2_init_19 0 rfl ?_
  refine zx_aload C dX2_init_20 4 rfl ?_
  refine zx_putF (j := 3) (ρ := sA (sA (sA (sA (σ) (a0) 0 (some (p0))) (a0) 1 (some (p1))) (a0) 2 (some (p2))) (a0) 3 (some (p3))) C hin tC_2 k1 i2 (by decide) W_2_4 rfl rfl rfl rfl (sA_ok (fun _ => rfl)) dX2_init_22 ?_
  obtain ⟨rfl, rfl⟩ := ret_e hm
  exact zx_vret C rfl rfl rfl dX2_init_25
abbrev cX3_init : ByteArray := prog_5_method_1_code
def yX3_init : MethodName := ⟨"SyncTree$PathText", "<init>", "()V"⟩
theorem Y_X3_init : tY yX3_init cX3_init 1 none 0 := ⟨W_2_54, W_1_9, ⟨by decide +kernel, by decide +kernel⟩, by decide +kernel⟩
theorem dX3_init_0 : decode cX3_init 0 = .ok (.aload_n 0, 1) := by decide +kernel
theorem dX3_init_1 : decode cX3_init 1 = .ok (.invokespecial 3, 3) := by decide +kernel
theorem dX3_init_4 : decode cX3_init 4 = .ok (.aload_n 0, 1) := by decide +kernel
theorem dX3_init_5 : decode cX3_init 5 = .ok (.bipush 120, 2) := by decide +kernel
theorem dX3_init_7 : decode cX3_init 7 = .ok (.newarray .byte, 2) := by decide +kernel
theorem dX3_init_9 : decode cX3_init 9 = .ok (.putfield 9, 3) := by decide +kernel
theorem dX3_init_12 : decode cX3_init 12 = .ok (.return_, 1) := by decide +kernel
set_option maxRecDepth 100000 in
set_option maxHeartbeats 1000000 in
theorem c_X3_init {l : Launch} {D : va_G} {aC : Nat → ClassId} {b0 fu : Nat} {a0 : Nat} {σ τ : tM} {v : Unit} (hm : m_X3_init b0 fu a0 σ = some (v, τ)) : tMt l D aC b0 yX3_init (Cond.code yX3_init cX3_init 1 none) 1 20 [.ref (a0)] σ (.inl none) τ := by
  unfold m_X3_init at hm
  obtain ⟨hg, hm⟩ := grw_e hm
  refine tMt_of (n := 0) rfl (Nat.le_of_ble_eq_true rfl) hg ?_
  intro p e s m below meth c C htab hin
  refine zx_lv [0] [(0, .ref (a0))] rfl ?_
  refine zx_aload_n C dX3_init_0 0 rfl ?_
  refine zx_obj C W_2_55 W_1_26 W_1_27 (by decide) (by decide) (Nat.le_of_ble_eq_true rfl) dX3_init_1 ?_
  refine zx_aload_n C dX3_init_4 0 rfl ?_
  refine zx_bipush (v := 120) C dX3_init_5 (by decide) ?_
  refine zx_newB C W_1_156 (by decide) (by decide) dX3_init_7 ?_
  refine zx_mem (fun ρ1 hρ1 => ?_)
  replace hm := ltb_e hm hρ1
  have k2 : tk ρ1 (b0 + tn σ) = .inr (1, ((120 : Int32)).toNatClampNeg) := by rw [hρ1]; exact sN_k _ _ _ _
  have i3 : tIn b0 ρ1 (b0 + tn σ) := by rw [hρ1]; exact sN_i _ _ _ _
  obtain ⟨k4, i5, hm⟩ := ckO_e hm
  refine zx_putF (j := 0) (ρ := sA (ρ1) (a0) 0 (some (b0 + tn σ))) C hin tC_3 k4 i5 (by decide) W_2_56 rfl rfl rfl rfl (sA_ok (fun _ => rfl)) dX3_init_9 ?_
  obtain ⟨rfl, rfl⟩ := ret_e hm
  exact zx_vret C rfl rfl rfl dX3_init_12
abbrev cX3_forget : ByteArray := prog_5_method_2_code
def yX3_forget : MethodName := ⟨"SyncTree$PathText", "forget", "()V"⟩
theorem Y_X3_forget : tY yX3_forget cX3_forget 1 none 0 := ⟨W_2_209, W_1_9, ⟨by decide +kernel, by decide +kernel⟩, by decide +kernel⟩
theorem dX3_forget_0 : decode cX3_forget 0 = .ok (.aload_n 0, 1) := by decide +kernel
theorem dX3_forget_1 : decode cX3_forget 1 = .ok (.iconst 0, 1) := by decide +kernel
theorem dX3_forget_2 : decode cX3_forget 2 = .ok (.putfield 15, 3) := by decide +kernel
theorem dX3_forget_5 : decode cX3_forget 5 = .ok (.aload_n 0, 1) := by decide +kernel
theorem dX3_forget_6 : decode cX3_forget 6 = .ok (.iconst 0, 1) := by decide +kernel
theorem dX3_forget_7 : decode cX3_forget 7 = .ok (.putfield 19, 3) := by decide +kernel
theorem dX3_forget_10 : decode cX3_forget 10 = .ok (.aload_n 0, 1) := by decide +kernel
theorem dX3_forget_11 : decode cX3_forget 11 = .ok (.iconst 0, 1) := by decide +kernel
theorem dX3_forget_12 : decode cX3_forget 12 = .ok (.putfield 22, 3) := by decide +kernel
theorem dX3_forget_15 : decode cX3_forget 15 = .ok (.return_, 1) := by decide +kernel
set_option maxRecDepth 100000 in
set_option maxHeartbeats 1000000 in
theorem c_X3_forget {l : Launch} {D : va_G} {aC : Nat → ClassId} {b0 fu : Nat} {a0 : Nat} {σ τ : tM} {v : Unit} (hm : m_X3_forget b0 fu a0 σ = some (v, τ)) : tMt l D aC b0 yX3_forget (Cond.code yX3_forget cX3_forget 1 none) 0 0 [.ref (a0)] σ (.inl none) τ := by
  unfold m_X3_forget at hm
  obtain ⟨hg, hm⟩ := grw_e hm
  refine tMt_of (n := 0) rfl (Nat.le_of_ble_eq_true rfl) hg ?_
  intro p e s m below meth c C htab hin
  refine zx_lv [0] [(0, .ref (a0))] rfl ?_
  refine zx_aload_n C dX3_forget_0 0 rfl ?_
  refine zx_iconst (v := 0) C dX3_forget_1 (by decide) ?_
  obtain ⟨k1, i2, hm⟩ := ckO_e hm
  refine zx_put (j := 1) (ρ := sI (σ) (a0) 1 (0)) C tC_3 k1 i2 ⟨by decide, Or.inl W_2_59⟩ rfl rfl rfl (sI_ok (fun _ => rfl)) dX3_forget_2 ?_
  refine zx_aload_n C dX3_forget_5 0 rfl ?_
  refine zx_iconst (v := 0) C dX3_forget_6 (by decide) ?_
  refine zx_put (j := 2) (ρ := sI (sI (σ) (a0) 1 (0)) (a0) 2 (0)) C tC_3 k1 i2 ⟨by decide, Or.inl W_2_63⟩ rfl rfl rfl (sI_ok (fun _ => rfl)) dX3_forget_7 ?_
  refine zx_aload_n C dX3_forget_10 0 rfl ?_
  refine zx_iconst (v := 0) C dX3_forget_11 (by decide) ?_
  refine zx_put (j := 3) (ρ := sI (sI (sI (σ) (a0) 1 (0)) (a0) 2 (0)) (a0) 3 (0)) C tC_3 k1 i2 ⟨by decide, Or.inl W_2_66⟩ rfl rfl rfl (sI_ok (fun _ => rfl)) dX3_forget_12 ?_
  obtain ⟨rfl, rfl⟩ := ret_e hm
  exact zx_vret C rfl rfl rfl dX3_forget_15
abbrev cX3_isDots : ByteArray := prog_5_method_5_code
def yX3_isDots : MethodName := ⟨"SyncTree$PathText", "isDots", "([BII)Z"⟩
theorem Y_X3_isDots : tY yX3_isDots cX3_isDots 3 (some .boolean) 3 := ⟨W_4_95, W_1_9, ⟨by decide +kernel, by decide +kernel⟩, by decide +kernel⟩
theorem dX3_isDots_0 : decode cX3_isDots 0 = .ok (.iload_n 2, 1) := by decide +kernel
theorem dX3_isDots_1 : decode cX3_isDots 1 = .ok (.iconst 1, 1) := by decide +kernel
theorem dX3_isDots_2 : decode cX3_isDots 2 = .ok (.if_icmp .lt 20, 3) := by decide +kernel
theorem dX3_isDots_5 : decode cX3_isDots 5 = .ok (.iload_n 2, 1) := by decide +kernel
theorem dX3_isDots_6 : decode cX3_isDots 6 = .ok (.iconst 2, 1) := by decide +kernel
theorem dX3_isDots_7 : decode cX3_isDots 7 = .ok (.if_icmp .gt 15, 3) := by decide +kernel
theorem dX3_isDots_10 : decode cX3_isDots 10 = .ok (.iload_n 1, 1) := by decide +kernel
theorem dX3_isDots_11 : decode cX3_isDots 11 = .ok (.ifCond .lt 11, 3) := by decide +kernel
theorem dX3_isDots_14 : decode cX3_isDots 14 = .ok (.iload_n 1, 1) := by decide +kernel
theorem dX3_isDots_15 : decode cX3_isDots 15 = .ok (.aload_n 0, 1) := by decide +kernel
theorem dX3_isDots_16 : decode cX3_isDots 16 = .ok (.arraylength, 1) := by decide +kernel
theorem dX3_isDots_17 : decode cX3_isDots 17 = .ok (.iload_n 2, 1) := by decide +kernel
theorem dX3_isDots_18 : decode cX3_isDots 18 = .ok (.isub, 1) := by decide +kernel
theorem dX3_isDots_19 : decode cX3_isDots 19 = .ok (.if_icmp .le 5, 3) := by decide +kernel
theorem dX3_isDots_22 : decode cX3_isDots 22 = .ok (.iconst 0, 1) := by decide +kernel
theorem dX3_isDots_23 : decode cX3_isDots 23 = .ok (.ireturn, 1) := by decide +kernel
theorem dX3_isDots_24 : decode cX3_isDots 24 = .ok (.aload_n 0, 1) := by decide +kernel
theorem dX3_isDots_25 : decode cX3_isDots 25 = .ok (.iload_n 1, 1) := by decide +kernel
theorem dX3_isDots_26 : decode cX3_isDots 26 = .ok (.baload, 1) := by decide +kernel
theorem dX3_isDots_27 : decode cX3_isDots 27 = .ok (.bipush 46, 2) := by decide +kernel
theorem dX3_isDots_29 : decode cX3_isDots 29 = .ok (.if_icmp .ne 19, 3) := by decide +kernel
theorem dX3_isDots_32 : decode cX3_isDots 32 = .ok (.aload_n 0, 1) := by decide +kernel
theorem dX3_isDots_33 : decode cX3_isDots 33 = .ok (.iload_n 1, 1) := by decide +kernel
theorem dX3_isDots_34 : decode cX3_isDots 34 = .ok (.iload_n 2, 1) := by decide +kernel
theorem dX3_isDots_35 : decode cX3_isDots 35 = .ok (.iadd, 1) := by decide +kernel
theorem dX3_isDots_36 : decode cX3_isDots 36 = .ok (.iconst 1, 1) := by decide +kernel
theorem dX3_isDots_37 : decode cX3_isDots 37 = .ok (.isub, 1) := by decide +kernel
theorem dX3_isDots_38 : decode cX3_isDots 38 = .ok (.baload, 1) := by decide +kernel
theorem dX3_isDots_39 : decode cX3_isDots 39 = .ok (.bipush 46, 2) := by decide +kernel
theorem dX3_isDots_41 : decode cX3_isDots 41 = .ok (.if_icmp .ne 7, 3) := by decide +kernel
theorem dX3_isDots_44 : decode cX3_isDots 44 = .ok (.iconst 1, 1) := by decide +kernel
theorem dX3_isDots_45 : decode cX3_isDots 45 = .ok (.goto 4, 3) := by decide +kernel
theorem dX3_isDots_48 : decode cX3_isDots 48 = .ok (.iconst 0, 1) := by decide +kernel
theorem dX3_isDots_49 : decode cX3_isDots 49 = .ok (.ireturn, 1) := by decide +kernel
set_option maxRecDepth 100000 in
set_option maxHeartbeats 1000000 in
theorem j_X3_isDots_22 {p : Program} {l : Launch} {e : Env} {s : State} {m : MethodId} {args : Array Value} {below : List Frame} {meth : Method} {c : Code} {D : va_G} {aC : Nat → ClassId} {b0 fu : Nat} {σ0 τ : tM} {v : Int32}  (C : tCx p l s m args meth c yX3_isDots.cls cX3_isDots 3 (some .boolean) D aC b0 σ0) (htab : ∀ x ∈ c.exceptionTable.toList, False) (hin : meth.name = yX3_isDots.name)   {σ : tM} (hm : J_X3_isDots_22 b0 fu   σ = some (v, τ)) : tX p l e s m args below meth c 3 0 0 D aC b0 σ0 (.inl (some (.int v))) τ 22 [] [] σ := by
  unfold J_X3_isDots_22 at hm
  refine zx_iconst (v := 0) C dX3_isDots_22 (by decide) ?_
  obtain ⟨rfl, rfl⟩ := ret_e hm
  exact zx_zret C rfl (by decide) rfl rfl dX3_isDots_23
set_option maxRecDepth 100000 in
set_option maxHeartbeats 1000000 in
theorem j_X3_isDots_49 {p : Program} {l : Launch} {e : Env} {s : State} {m : MethodId} {args : Array Value} {below : List Frame} {meth : Method} {c : Code} {D : va_G} {aC : Nat → ClassId} {b0 fu : Nat} {σ0 τ : tM} {v : Int32}  (C : tCx p l s m args meth c yX3_isDots.cls cX3_isDots 3 (some .boolean) D aC b0 σ0) (htab : ∀ x ∈ c.exceptionTable.toList, False) (hin : meth.name = yX3_isDots.name)  {s0 : Int32} {σ : tM} (hm : J_X3_isDots_49 b0 fu  s0 σ = some (v, τ)) : tX p l e s m args below meth c 3 0 0 D aC b0 σ0 (.inl (some (.int v))) τ 49 [] [.int (s0)] σ := by
  unfold J_X3_isDots_49 at hm
  obtain ⟨h10, hm⟩ := ckZ_e hm
  obtain ⟨rfl, rfl⟩ := ret_e hm
  exact zx_zret C rfl h10 rfl rfl dX3_isDots_49
set_option maxRecDepth 100000 in
set_option maxHeartbeats 1000000 in
theorem j_X3_isDots_48 {p : Program} {l : Launch} {e : Env} {s : State} {m : MethodId} {args : Array Value} {below : List Frame} {meth : Method} {c : Code} {D : va_G} {aC : Nat → ClassId} {b0 fu : Nat} {σ0 τ : tM} {v : Int32}  (C : tCx p l s m args meth c yX3_isDots.cls cX3_isDots 3 (some .boolean) D aC b0 σ0) (htab : ∀ x ∈ c.exceptionTable.toList, False) (hin : meth.name = yX3_isDots.name)   {σ : tM} (hm : J_X3_isDots_48 b0 fu   σ = some (v, τ)) : tX p l e s m args below meth c 3 0 0 D aC b0 σ0 (.inl (some (.int v))) τ 48 [] [] σ := by
  unfold J_X3_isDots_48 at hm
  refine zx_iconst (v := 0) C dX3_isDots_48 (by decide) ?_
  exact zx_lv [] [] rfl (j_X3_isDots_49 C htab hin    hm)
set_option maxRecDepth 100000 in
set_option maxHeartbeats 1000000 in
theorem c_X3_isDots {l : Launch} {D : va_G} {aC : Nat → ClassId} {b0 fu : Nat} {p0 : Nat} {p1 : Int32} {p2 : Int32} {σ τ : tM} {v : Int32} (hm : m_X3_isDots b0 fu p0 p1 p2 σ = some (v, τ)) : tMt l D aC b0 yX3_isDots (Cond.code yX3_isDots cX3_isDots 3 (some .boolean)) 0 0 [.ref (p0), .int (p1), .int (p2)] σ (.inl (some (.int v))) τ := by
  unfold m_X3_isDots at hm
  obtain ⟨hg, hm⟩ := grw_e hm
  refine tMt_of (n := 0) rfl (Nat.le_of_ble_eq_true rfl) hg ?_
  intro p e s m below meth c C htab hin
  refine zx_lv [0, 1, 2] [(0, .ref (p0)), (1, .int (p1)), (2, .int (p2))] rfl ?_
  refine zx_iload_n C dX3_isDots_0 2 rfl ?_
  refine zx_iconst (v := 1) C dX3_isDots_1 (by decide) ?_
  refine zx_icmp_lt C 22 dX3_isDots_2 (by decide) (fun c1 => ?_) (fun c1 => ?_)
  · replace hm := ip_e hm c1
    exact zx_lv [] [] rfl (j_X3_isDots_22 C htab hin    hm)
  · replace hm := in_e hm c1
    refine zx_iload_n C dX3_isDots_5 2 rfl ?_
    refine zx_iconst (v := 2) C dX3_isDots_6 (by decide) ?_
    refine zx_icmp_gt C 22 dX3_isDots_7 (by decide) (fun c2 => ?_) (fun c2 => ?_)
    · replace hm := ip_e hm c2
      exact zx_lv [] [] rfl (j_X3_isDots_22 C htab hin    hm)
    · replace hm := in_e hm c2
      refine zx_iload_n C dX3_isDots_10 1 rfl ?_
      refine zx_if_lt C 22 dX3_isDots_11 (by decide) (fun c3 => ?_) (fun c3 => ?_)
      · replace hm := ip_e hm c3
        exact zx_lv [] [] rfl (j_X3_isDots_22 C htab hin    hm)
      · replace hm := in_e hm c3
        refine zx_iload_n C dX3_isDots_14 1 rfl ?_
        refine zx_aload_n C dX3_isDots_15 0 rfl ?_
        obtain ⟨n6, k4, i5, hm⟩ := ckR_e hm
        refine zx_alen C k4 (by decide) i5 dX3_isDots_16 ?_
        refine zx_iload_n C dX3_isDots_17 2 rfl ?_
        refine zx_isub C dX3_isDots_18 ?_
        refine zx_icmp_le C 24 dX3_isDots_19 (by decide) (fun c7 => ?_) (fun c7 => ?_)
        · replace hm := ip_e hm c7
          refine zx_aload_n C dX3_isDots_24 0 rfl ?_
          refine zx_iload_n C dX3_isDots_25 1 rfl ?_
          obtain ⟨h8, hm⟩ := ckI_e hm
          refine zx_bald C k4 i5 h8 dX3_isDots_26 ?_
          refine zx_bipush (v := 46) C dX3_isDots_27 (by decide) ?_
          refine zx_icmp_ne C 48 dX3_isDots_29 (by decide) (fun c9 => ?_) (fun c9 => ?_)
          · replace hm := in_e hm c9
            exact zx_lv [] [] rfl (j_X3_isDots_48 C htab hin    hm)
          · replace hm := ip_e hm c9
            refine zx_aload_n C dX3_isDots_32 0 rfl ?_
            refine zx_iload_n C dX3_isDots_33 1 rfl ?_
            refine zx_iload_n C dX3_isDots_34 2 rfl ?_
            refine zx_iadd C dX3_isDots_35 ?_
            refine zx_iconst (v := 1) C dX3_isDots_36 (by decide) ?_
            refine zx_isub C dX3_isDots_37 ?_
            obtain ⟨h11, hm⟩ := ckI_e hm
            refine zx_bald C k4 i5 h11 dX3_isDots_38 ?_
            refine zx_bipush (v := 46) C dX3_isDots_39 (by decide) ?_
            refine zx_icmp_ne C 48 dX3_isDots_41 (by decide) (fun c12 => ?_) (fun c12 => ?_)
            · replace hm := in_e hm c12
              exact zx_lv [] [] rfl (j_X3_isDots_48 C htab hin    hm)
            · replace hm := ip_e hm c12
              refine zx_iconst (v := 1) C dX3_isDots_44 (by decide) ?_
              refine zx_goto C 49 dX3_isDots_45 (by decide) ?_
              exact zx_lv [] [] rfl (j_X3_isDots_49 C htab hin    hm)
        · replace hm := in_e hm c7
          exact zx_lv [] [] rfl (j_X3_isDots_22 C htab hin    hm)
