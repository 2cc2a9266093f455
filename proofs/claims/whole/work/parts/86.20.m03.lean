abbrev cX5_load : ByteArray := prog_7_method_18_code
def yX5_load : MethodName := ⟨"SyncTree$Space", "load", "(ILSyncTree$Row;)V"⟩
theorem Y_X5_load : tY yX5_load cX5_load 4 none 2 := ⟨W_2_132, W_1_3, ⟨by decide +kernel, by decide +kernel⟩, by decide +kernel⟩
theorem dX5_load_0 : decode cX5_load 0 = .ok (.iload_n 1, 1) := by decide +kernel
theorem dX5_load_1 : decode cX5_load 1 = .ok (.ifCond .le 10, 3) := by decide +kernel
theorem dX5_load_4 : decode cX5_load 4 = .ok (.iload_n 1, 1) := by decide +kernel
theorem dX5_load_5 : decode cX5_load 5 = .ok (.sipush 2034, 3) := by decide +kernel
theorem dX5_load_8 : decode cX5_load 8 = .ok (.if_icmp .lt 4, 3) := by decide +kernel
theorem dX5_load_11 : decode cX5_load 11 = .ok (.return_, 1) := by decide +kernel
theorem dX5_load_12 : decode cX5_load 12 = .ok (.aload_n 2, 1) := by decide +kernel
theorem dX5_load_13 : decode cX5_load 13 = .ok (.ifnull 22, 3) := by decide +kernel
theorem dX5_load_16 : decode cX5_load 16 = .ok (.aload_n 2, 1) := by decide +kernel
theorem dX5_load_17 : decode cX5_load 17 = .ok (.getfield 113, 3) := by decide +kernel
theorem dX5_load_20 : decode cX5_load 20 = .ok (.iconst 0, 1) := by decide +kernel
theorem dX5_load_21 : decode cX5_load 21 = .ok (.aload_n 0, 1) := by decide +kernel
theorem dX5_load_22 : decode cX5_load 22 = .ok (.getfield 10, 3) := by decide +kernel
theorem dX5_load_25 : decode cX5_load 25 = .ok (.iload_n 1, 1) := by decide +kernel
theorem dX5_load_26 : decode cX5_load 26 = .ok (.bipush 32, 2) := by decide +kernel
theorem dX5_load_28 : decode cX5_load 28 = .ok (.imul, 1) := by decide +kernel
theorem dX5_load_29 : decode cX5_load 29 = .ok (.bipush 32, 2) := by decide +kernel
theorem dX5_load_31 : decode cX5_load 31 = .ok (.invokestatic 116, 3) := by decide +kernel
theorem dX5_load_34 : decode cX5_load 34 = .ok (.return_, 1) := by decide +kernel
theorem dX5_load_35 : decode cX5_load 35 = .ok (.iconst 0, 1) := by decide +kernel
theorem dX5_load_36 : decode cX5_load 36 = .ok (.istore_n 3, 1) := by decide +kernel
theorem dX5_load_37 : decode cX5_load 37 = .ok (.iload_n 3, 1) := by decide +kernel
theorem dX5_load_38 : decode cX5_load 38 = .ok (.bipush 32, 2) := by decide +kernel
theorem dX5_load_40 : decode cX5_load 40 = .ok (.if_icmp .ge 21, 3) := by decide +kernel
theorem dX5_load_43 : decode cX5_load 43 = .ok (.aload_n 0, 1) := by decide +kernel
theorem dX5_load_44 : decode cX5_load 44 = .ok (.getfield 10, 3) := by decide +kernel
theorem dX5_load_47 : decode cX5_load 47 = .ok (.iload_n 1, 1) := by decide +kernel
theorem dX5_load_48 : decode cX5_load 48 = .ok (.bipush 32, 2) := by decide +kernel
theorem dX5_load_50 : decode cX5_load 50 = .ok (.imul, 1) := by decide +kernel
theorem dX5_load_51 : decode cX5_load 51 = .ok (.iload_n 3, 1) := by decide +kernel
theorem dX5_load_52 : decode cX5_load 52 = .ok (.iadd, 1) := by decide +kernel
theorem dX5_load_53 : decode cX5_load 53 = .ok (.lconst 0, 1) := by decide +kernel
theorem dX5_load_54 : decode cX5_load 54 = .ok (.lastore, 1) := by decide +kernel
theorem dX5_load_55 : decode cX5_load 55 = .ok (.iinc 3 1, 3) := by decide +kernel
theorem dX5_load_58 : decode cX5_load 58 = .ok (.goto (-21), 3) := by decide +kernel
theorem dX5_load_61 : decode cX5_load 61 = .ok (.return_, 1) := by decide +kernel
set_option maxRecDepth 100000 in
set_option maxHeartbeats 1000000 in
theorem j_X5_load_11 {p : Program} {l : Launch} {e : Env} {s : State} {m : MethodId} {args : Array Value} {below : List Frame} {meth : Method} {c : Code} {D : va_G} {aC : Nat → ClassId} {b0 fu : Nat} {σ0 τ : tM} {v : Unit}  (C : tCx p l s m args meth c yX5_load.cls cX5_load 4 none D aC b0 σ0) (htab : ∀ x ∈ c.exceptionTable.toList, False) (hin : meth.name = yX5_load.name)   {σ : tM} (hm : J_X5_load_11 b0 fu   σ = some (v, τ)) : tX p l e s m args below meth c 4 1 26 D aC b0 σ0 (.inl none) τ 11 [] [] σ := by
  unfold J_X5_load_11 at hm
  obtain ⟨rfl, rfl⟩ := ret_e hm
  exact zx_vret C rfl rfl rfl dX5_load_11
set_option maxRecDepth 100000 in
set_option maxHeartbeats 1000000 in
theorem l_X5_load_37 {p : Program} {l : Launch} {e : Env} {s : State} {m : MethodId} {args : Array Value} {below : List Frame} {meth : Method} {c : Code} {D : va_G} {aC : Nat → ClassId} {b0 fu : Nat} {σ0 τ : tM} {v : Unit}  (C : tCx p l s m args meth c yX5_load.cls cX5_load 4 none D aC b0 σ0) (htab : ∀ x ∈ c.exceptionTable.toList, False) (hin : meth.name = yX5_load.name)  : ∀ (n : Nat) (x0 : Nat) (x1 : Int32) (x3 : Int32) (σ : tM), L_X5_load_37 b0 fu  n x0 x1 x3 σ = some (v, τ) → tX p l e s m args below meth c 4 1 26 D aC b0 σ0 (.inl none) τ 37 [(0, .ref (x0)), (1, .int (x1)), (3, .int (x3))] [] σ := by
  intro n
  induction n with
  | zero => intro x0 x1 x3 σ hm; unfold L_X5_load_37 at hm; cases hm
  | succ n ih =>
    intro x0 x1 x3 σ hm
    unfold L_X5_load_37 at hm
    obtain ⟨rc37, hrc⟩ : ∃ z, z = L_X5_load_37 b0 fu  n := ⟨_, rfl⟩
    replace hm := ltb_e hm hrc
    rw [← hrc] at ih
    have hrc37 := ih
    clear ih hrc
    refine zx_iload_n C dX5_load_37 2 rfl ?_
    refine zx_bipush (v := 32) C dX5_load_38 (by decide) ?_
    refine zx_icmp_ge C 61 dX5_load_40 (by decide) (fun c21 => ?_) (fun c21 => ?_)
    · replace hm := ip_e hm c21
      obtain ⟨rfl, rfl⟩ := ret_e hm
      exact zx_vret C rfl rfl rfl dX5_load_61
    · replace hm := in_e hm c21
      refine zx_aload_n C dX5_load_43 0 rfl ?_
      obtain ⟨k22, i23, hm⟩ := ckO_e hm
      obtain ⟨a24, h25, hm⟩ := osm_e hm
      refine zx_get (j := 0) C tC_5 k22 i23 ⟨by decide, Or.inl W_1_94⟩ dX5_load_44 (.ref a24) (rf_s h25) ?_
      refine zx_iload_n C dX5_load_47 1 rfl ?_
      refine zx_bipush (v := 32) C dX5_load_48 (by decide) ?_
      refine zx_imul C dX5_load_50 ?_
      refine zx_iload_n C dX5_load_51 2 rfl ?_
      refine zx_iadd C dX5_load_52 ?_
      refine zx_lconst (v := 0) C dX5_load_53 (by decide) ?_
      obtain ⟨n28, k26, i27, hm⟩ := ckR_e hm
      obtain ⟨h29, hm⟩ := ckI_e hm
      refine zx_last C k26 i27 h29 dX5_load_54 ?_
      obtain ⟨y30, hy30⟩ : ∃ z : Int32, z = (x3) + Int32.ofInt 1 := ⟨_, rfl⟩
      replace hm := ltb_e hm hy30
      refine zx_iinc C [(3, .int (y30)), (0, .ref (x0)), (1, .int (x1))] dX5_load_55 2 rfl hy30.symm (by decide) rfl ?_
      refine zx_goto C 37 dX5_load_58 (by decide) ?_
      exact zx_lv [1, 2, 0] [(0, .ref (x0)), (1, .int (x1)), (3, .int (y30))] rfl (hrc37 _ _ _ _ hm)
set_option maxRecDepth 100000 in
set_option maxHeartbeats 1000000 in
theorem c_X5_load {l : Launch} {D : va_G} {aC : Nat → ClassId} {b0 fu : Nat} {a0 : Nat} {p0 : Int32} {p1 : Option Nat} {σ τ : tM} {v : Unit} (hm : m_X5_load b0 fu a0 p0 p1 σ = some (v, τ)) : tMt l D aC b0 yX5_load (Cond.code yX5_load cX5_load 4 none) 1 26 [.ref (a0), .int (p0), va_rf (p1)] σ (.inl none) τ := by
  unfold m_X5_load at hm
  obtain ⟨hg, hm⟩ := grw_e hm
  refine tMt_of (n := 0) rfl (by cases p1 <;> exact Nat.le_of_ble_eq_true rfl) hg ?_
  intro p e s m below meth c C htab hin
  refine zx_lv [0, 1, 2] [(0, .ref (a0)), (1, .int (p0)), (2, va_rf (p1))] (by cases p1 <;> rfl) ?_
  refine zx_iload_n C dX5_load_0 1 rfl ?_
  refine zx_if_le C 11 dX5_load_1 (by decide) (fun c1 => ?_) (fun c1 => ?_)
  · replace hm := ip_e hm c1
    exact zx_lv [] [] rfl (j_X5_load_11 C htab hin    hm)
  · replace hm := in_e hm c1
    refine zx_iload_n C dX5_load_4 1 rfl ?_
    refine zx_sipush (v := 2034) C dX5_load_5 (by decide) ?_
    refine zx_icmp_lt C 12 dX5_load_8 (by decide) (fun c2 => ?_) (fun c2 => ?_)
    · replace hm := ip_e hm c2
      rcases omt_e hm with ⟨o3, h4, hm⟩ | ⟨h4, hm⟩
      · refine zx_lv [0, 1, 2] [(0, .ref (a0)), (1, .int (p0)), (2, .ref (o3))] (by rw [h4]; rfl) ?_
        refine zx_aload_n C dX5_load_12 2 rfl ?_
        refine zx_ifnull C dX5_load_13 ?_
        refine zx_aload_n C dX5_load_16 2 rfl ?_
        obtain ⟨k5, i6, hm⟩ := ckO_e hm
        obtain ⟨a7, h8, hm⟩ := osm_e hm
        refine zx_get (j := 0) C tC_4 k5 i6 ⟨by decide, Or.inr ⟨_, W_2_191⟩⟩ dX5_load_17 (.ref a7) (rf_s h8) ?_
        refine zx_iconst (v := 0) C dX5_load_20 (by decide) ?_
        refine zx_aload_n C dX5_load_21 0 rfl ?_
        obtain ⟨k9, i10, hm⟩ := ckO_e hm
        obtain ⟨a11, h12, hm⟩ := osm_e hm
        refine zx_get (j := 0) C tC_5 k9 i10 ⟨by decide, Or.inl W_1_94⟩ dX5_load_22 (.ref a11) (rf_s h12) ?_
        refine zx_iload_n C dX5_load_25 1 rfl ?_
        refine zx_bipush (v := 32) C dX5_load_26 (by decide) ?_
        refine zx_imul C dX5_load_28 ?_
        refine zx_bipush (v := 32) C dX5_load_29 (by decide) ?_
        obtain ⟨n15, k13, i14, hm⟩ := ckR_e hm
        obtain ⟨n18, k16, i17, hm⟩ := ckR_e hm
        obtain ⟨h19, hm⟩ := ckC_e hm
        refine zx_copyJ (σ := σ) C W_2_133 W_2_135 W_2_134 W_1_11 k13 i14 k16 i17 h19  (by decide) (by decide) (Nat.le_of_ble_eq_true rfl) dX5_load_31 ?_
        obtain ⟨rfl, rfl⟩ := ret_e hm
        exact zx_vret C rfl rfl rfl dX5_load_34
      · refine zx_lv [0, 1, 2] [(0, .ref (a0)), (1, .int (p0)), (2, .null)] (by rw [h4]; rfl) ?_
        refine zx_aload_nN C dX5_load_12 2 rfl ?_
        refine zx_ifnullN C 35 dX5_load_13 (by decide) ?_
        refine zx_iconst (v := 0) C dX5_load_35 (by decide) ?_
        refine zx_istore_n C [(3, .int (0)), (0, .ref (a0)), (1, .int (p0)), (2, .null)] dX5_load_36 rfl (by decide) rfl ?_
        exact zx_lv [1, 2, 0] [(0, .ref (a0)), (1, .int (p0)), (3, .int (0))] rfl (l_X5_load_37 C htab hin  _ _ _ _ _ hm)
    · replace hm := in_e hm c2
      exact zx_lv [] [] rfl (j_X5_load_11 C htab hin    hm)
abbrev cX5_save : ByteArray := prog_7_method_19_code
def yX5_save : MethodName := ⟨"SyncTree$Space", "save", "(ILSyncTree$Row;)V"⟩
theorem Y_X5_save : tY yX5_save cX5_save 3 none 2 := ⟨W_2_201, W_1_3, ⟨by decide +kernel, by decide +kernel⟩, by decide +kernel⟩
theorem dX5_save_0 : decode cX5_save 0 = .ok (.iload_n 1, 1) := by decide +kernel
theorem dX5_save_1 : decode cX5_save 1 = .ok (.ifCond .lt 28, 3) := by decide +kernel
theorem dX5_save_4 : decode cX5_save 4 = .ok (.iload_n 1, 1) := by decide +kernel
theorem dX5_save_5 : decode cX5_save 5 = .ok (.sipush 2034, 3) := by decide +kernel
theorem dX5_save_8 : decode cX5_save 8 = .ok (.if_icmp .ge 21, 3) := by decide +kernel
theorem dX5_save_11 : decode cX5_save 11 = .ok (.aload_n 0, 1) := by decide +kernel
theorem dX5_save_12 : decode cX5_save 12 = .ok (.getfield 10, 3) := by decide +kernel
theorem dX5_save_15 : decode cX5_save 15 = .ok (.iload_n 1, 1) := by decide +kernel
theorem dX5_save_16 : decode cX5_save 16 = .ok (.bipush 32, 2) := by decide +kernel
theorem dX5_save_18 : decode cX5_save 18 = .ok (.imul, 1) := by decide +kernel
theorem dX5_save_19 : decode cX5_save 19 = .ok (.aload_n 2, 1) := by decide +kernel
theorem dX5_save_20 : decode cX5_save 20 = .ok (.getfield 113, 3) := by decide +kernel
theorem dX5_save_23 : decode cX5_save 23 = .ok (.iconst 0, 1) := by decide +kernel
theorem dX5_save_24 : decode cX5_save 24 = .ok (.bipush 32, 2) := by decide +kernel
theorem dX5_save_26 : decode cX5_save 26 = .ok (.invokestatic 116, 3) := by decide +kernel
theorem dX5_save_29 : decode cX5_save 29 = .ok (.return_, 1) := by decide +kernel
set_option maxRecDepth 100000 in
set_option maxHeartbeats 1000000 in
theorem j_X5_save_29 {p : Program} {l : Launch} {e : Env} {s : State} {m : MethodId} {args : Array Value} {below : List Frame} {meth : Method} {c : Code} {D : va_G} {aC : Nat → ClassId} {b0 fu : Nat} {σ0 τ : tM} {v : Unit}  (C : tCx p l s m args meth c yX5_save.cls cX5_save 3 none D aC b0 σ0) (htab : ∀ x ∈ c.exceptionTable.toList, False) (hin : meth.name = yX5_save.name)   {σ : tM} (hm : J_X5_save_29 b0 fu   σ = some (v, τ)) : tX p l e s m args below meth c 3 1 26 D aC b0 σ0 (.inl none) τ 29 [] [] σ := by
  unfold J_X5_save_29 at hm
  obtain ⟨rfl, rfl⟩ := ret_e hm
  exact zx_vret C rfl rfl rfl dX5_save_29
set_option maxRecDepth 100000 in
set_option maxHeartbeats 1000000 in
theorem c_X5_save {l : Launch} {D : va_G} {aC : Nat → ClassId} {b0 fu : Nat} {a0 : Nat} {p0 : Int32} {p1 : Option Nat} {σ τ : tM} {v : Unit} (hm : m_X5_save b0 fu a0 p0 p1 σ = some (v, τ)) : tMt l D aC b0 yX5_save (Cond.code yX5_save cX5_save 3 none) 1 26 [.ref (a0), .int (p0), va_rf (p1)] σ (.inl none) τ := by
  unfold m_X5_save at hm
  obtain ⟨hg, hm⟩ := grw_e hm
  refine tMt_of (n := 0) rfl (by cases p1 <;> exact Nat.le_of_ble_eq_true rfl) hg ?_
  intro p e s m below meth c C htab hin
  refine zx_lv [0, 1, 2] [(0, .ref (a0)), (1, .int (p0)), (2, va_rf (p1))] (by cases p1 <;> rfl) ?_
  refine zx_iload_n C dX5_save_0 1 rfl ?_
  refine zx_if_lt C 29 dX5_save_1 (by decide) (fun c1 => ?_) (fun c1 => ?_)
  · replace hm := ip_e hm c1
    exact zx_lv [] [] rfl (j_X5_save_29 C htab hin    hm)
  · replace hm := in_e hm c1
    refine zx_iload_n C dX5_save_4 1 rfl ?_
    refine zx_sipush (v := 2034) C dX5_save_5 (by decide) ?_
    refine zx_icmp_ge C 29 dX5_save_8 (by decide) (fun c2 => ?_) (fun c2 => ?_)
    · replace hm := ip_e hm c2
      exact zx_lv [] [] rfl (j_X5_save_29 C htab hin    hm)
    · replace hm := in_e hm c2
      refine zx_aload_n C dX5_save_11 0 rfl ?_
      obtain ⟨k3, i4, hm⟩ := ckO_e hm
      obtain ⟨a5, h6, hm⟩ := osm_e hm
      refine zx_get (j := 0) C tC_5 k3 i4 ⟨by decide, Or.inl W_1_94⟩ dX5_save_12 (.ref a5) (rf_s h6) ?_
      refine zx_iload_n C dX5_save_15 1 rfl ?_
      refine zx_bipush (v := 32) C dX5_save_16 (by decide) ?_
      refine zx_imul C dX5_save_18 ?_
      rcases omt_e hm with ⟨o7, h8, hm⟩ | ⟨h8, hm⟩
      · refine zx_lv [0, 1, 2] [(0, .ref (a0)), (1, .int (p0)), (2, .ref (o7))] (by rw [h8]; rfl) ?_
        refine zx_aload_n C dX5_save_19 2 rfl ?_
        obtain ⟨k9, i10, hm⟩ := ckO_e hm
        obtain ⟨a11, h12, hm⟩ := osm_e hm
        refine zx_get (j := 0) C tC_4 k9 i10 ⟨by decide, Or.inr ⟨_, W_2_191⟩⟩ dX5_save_20 (.ref a11) (rf_s h12) ?_
        refine zx_iconst (v := 0) C dX5_save_23 (by decide) ?_
        refine zx_bipush (v := 32) C dX5_save_24 (by decide) ?_
        obtain ⟨n15, k13, i14, hm⟩ := ckR_e hm
        obtain ⟨n18, k16, i17, hm⟩ := ckR_e hm
        obtain ⟨h19, hm⟩ := ckC_e hm
        refine zx_copyJ (σ := σ) C W_2_133 W_2_135 W_2_134 W_1_11 k13 i14 k16 i17 h19  (by decide) (by decide) (Nat.le_of_ble_eq_true rfl) dX5_save_26 ?_
        exact zx_lv [] [] rfl (j_X5_save_29 C htab hin    hm)
      · refine zx_lv [0, 1, 2] [(0, .ref (a0)), (1, .int (p0)), (2, .null)] (by rw [h8]; rfl) ?_
        refine zx_aload_nN C dX5_save_19 2 rfl ?_
        cases hm
abbrev cX5_touch : ByteArray := prog_7_method_20_code
def yX5_touch : MethodName := ⟨"SyncTree$Space", "touch", "(I)V"⟩
theorem Y_X5_touch : tY yX5_touch cX5_touch 2 none 1 := ⟨W_2_159, W_1_3, ⟨by decide +kernel, by decide +kernel⟩, by decide +kernel⟩
theorem dX5_touch_0 : decode cX5_touch 0 = .ok (.iload_n 1, 1) := by decide +kernel
theorem dX5_touch_1 : decode cX5_touch 1 = .ok (.ifCond .le 37, 3) := by decide +kernel
theorem dX5_touch_4 : decode cX5_touch 4 = .ok (.iload_n 1, 1) := by decide +kernel
theorem dX5_touch_5 : decode cX5_touch 5 = .ok (.aload_n 0, 1) := by decide +kernel
theorem dX5_touch_6 : decode cX5_touch 6 = .ok (.getfield 48, 3) := by decide +kernel
theorem dX5_touch_9 : decode cX5_touch 9 = .ok (.if_icmp .ge 29, 3) := by decide +kernel
theorem dX5_touch_12 : decode cX5_touch 12 = .ok (.aload_n 0, 1) := by decide +kernel
theorem dX5_touch_13 : decode cX5_touch 13 = .ok (.getfield 27, 3) := by decide +kernel
theorem dX5_touch_16 : decode cX5_touch 16 = .ok (.iload_n 1, 1) := by decide +kernel
theorem dX5_touch_17 : decode cX5_touch 17 = .ok (.baload, 1) := by decide +kernel
theorem dX5_touch_18 : decode cX5_touch 18 = .ok (.ifCond .ne 20, 3) := by decide +kernel
theorem dX5_touch_21 : decode cX5_touch 21 = .ok (.aload_n 0, 1) := by decide +kernel
theorem dX5_touch_22 : decode cX5_touch 22 = .ok (.getfield 27, 3) := by decide +kernel
theorem dX5_touch_25 : decode cX5_touch 25 = .ok (.iload_n 1, 1) := by decide +kernel
theorem dX5_touch_26 : decode cX5_touch 26 = .ok (.iconst 1, 1) := by decide +kernel
theorem dX5_touch_27 : decode cX5_touch 27 = .ok (.bastore, 1) := by decide +kernel
theorem dX5_touch_28 : decode cX5_touch 28 = .ok (.aload_n 0, 1) := by decide +kernel
theorem dX5_touch_29 : decode cX5_touch 29 = .ok (.dup, 1) := by decide +kernel
theorem dX5_touch_30 : decode cX5_touch 30 = .ok (.getfield 78, 3) := by decide +kernel
theorem dX5_touch_33 : decode cX5_touch 33 = .ok (.iconst 1, 1) := by decide +kernel
theorem dX5_touch_34 : decode cX5_touch 34 = .ok (.iadd, 1) := by decide +kernel
theorem dX5_touch_35 : decode cX5_touch 35 = .ok (.putfield 78, 3) := by decide +kernel
theorem dX5_touch_38 : decode cX5_touch 38 = .ok (.return_, 1) := by decide +kernel
set_option maxRecDepth 100000 in
set_option maxHeartbeats 1000000 in
theorem j_X5_touch_38 {p : Program} {l : Launch} {e : Env} {s : State} {m : MethodId} {args : Array Value} {below : List Frame} {meth : Method} {c : Code} {D : va_G} {aC : Nat → ClassId} {b0 fu : Nat} {σ0 τ : tM} {v : Unit}  (C : tCx p l s m args meth c yX5_touch.cls cX5_touch 2 none D aC b0 σ0) (htab : ∀ x ∈ c.exceptionTable.toList, False) (hin : meth.name = yX5_touch.name)   {σ : tM} (hm : J_X5_touch_38 b0 fu   σ = some (v, τ)) : tX p l e s m args below meth c 2 0 0 D aC b0 σ0 (.inl none) τ 38 [] [] σ := by
  unfold J_X5_touch_38 at hm
  obtain ⟨rfl, rfl⟩ := ret_e hm
  exact zx_vret C rfl rfl rfl dX5_touch_38
set_option maxRecDepth 100000 in
set_option maxHeartbeats 1000000 in
theorem c_X5_touch {l : Launch} {D : va_G} {aC : Nat → ClassId} {b0 fu : Nat} {a0 : Nat} {p0 : Int32} {σ τ : tM} {v : Unit} (hm : m_X5_touch b0 fu a0 p0 σ = some (v, τ)) : tMt l D aC b0 yX5_touch (Cond.code yX5_touch cX5_touch 2 none) 0 0 [.ref (a0), .int (p0)] σ (.inl none) τ := by
  unfold m_X5_touch at hm
  obtain ⟨hg, hm⟩ := grw_e hm
  refine tMt_of (n := 0) rfl (Nat.le_of_ble_eq_true rfl) hg ?_
  intro p e s m below meth c C htab hin
  refine zx_lv [0, 1] [(0, .ref (a0)), (1, .int (p0))] rfl ?_
  refine zx_iload_n C dX5_touch_0 1 rfl ?_
  refine zx_if_le C 38 dX5_touch_1 (by decide) (fun c1 => ?_) (fun c1 => ?_)
  · replace hm := ip_e hm c1
    exact zx_lv [] [] rfl (j_X5_touch_38 C htab hin    hm)
  · replace hm := in_e hm c1
    refine zx_iload_n C dX5_touch_4 1 rfl ?_
    refine zx_aload_n C dX5_touch_5 0 rfl ?_
    obtain ⟨k2, i3, hm⟩ := ckO_e hm
    refine zx_get (j := 7) C tC_5 k2 i3 ⟨by decide, Or.inl W_1_104⟩ dX5_touch_6 (.int (tI (σ) (a0) 7)) rfl ?_
    refine zx_icmp_ge C 38 dX5_touch_9 (by decide) (fun c4 => ?_) (fun c4 => ?_)
    · replace hm := ip_e hm c4
      exact zx_lv [] [] rfl (j_X5_touch_38 C htab hin    hm)
    · replace hm := in_e hm c4
      refine zx_aload_n C dX5_touch_12 0 rfl ?_
      obtain ⟨a5, h6, hm⟩ := osm_e hm
      refine zx_get (j := 4) C tC_5 k2 i3 ⟨by decide, Or.inl W_1_100⟩ dX5_touch_13 (.ref a5) (rf_s h6) ?_
      refine zx_iload_n C dX5_touch_16 1 rfl ?_
      obtain ⟨n9, k7, i8, hm⟩ := ckR_e hm
      obtain ⟨h10, hm⟩ := ckI_e hm
      refine zx_bald C k7 i8 h10 dX5_touch_17 ?_
      refine zx_if_ne C 38 dX5_touch_18 (by decide) (fun c11 => ?_) (fun c11 => ?_)
      · replace hm := in_e hm c11
        exact zx_lv [] [] rfl (j_X5_touch_38 C htab hin    hm)
      · replace hm := ip_e hm c11
        refine zx_aload_n C dX5_touch_21 0 rfl ?_
        obtain ⟨a12, h13, hm⟩ := osm_e hm
        refine zx_get (j := 4) C tC_5 k2 i3 ⟨by decide, Or.inl W_1_100⟩ dX5_touch_22 (.ref a12) (rf_s h13) ?_
        refine zx_iload_n C dX5_touch_25 1 rfl ?_
        refine zx_iconst (v := 1) C dX5_touch_26 (by decide) ?_
        obtain ⟨n16, k14, i15, hm⟩ := ckR_e hm
        obtain ⟨h17, hm⟩ := ckI_e hm
        refine zx_bast C k14 i15 h17 dX5_touch_27 ?_
        refine zx_aload_n C dX5_touch_28 0 rfl ?_
        refine zx_dup C dX5_touch_29 rfl ?_
        refine zx_get (j := 11) C tC_5 k2 i3 ⟨by decide, Or.inl W_1_111⟩ dX5_touch_30 (.int (tI (sI (σ) (a12) ((p0).toNatClampNeg) (vp_nar .byte ((1 : Int32)))) (a0) 11)) rfl ?_
        refine zx_iconst (v := 1) C dX5_touch_33 (by decide) ?_
        refine zx_iadd C dX5_touch_34 ?_
        refine zx_put (j := 11) (ρ := sI (sI (σ) (a12) ((p0).toNatClampNeg) (vp_nar .byte ((1 : Int32)))) (a0) 11 ((tI (sI (σ) (a12) ((p0).toNatClampNeg) (vp_nar .byte ((1 : Int32)))) (a0) 11) + (1))) C tC_5 k2 i3 ⟨by decide, Or.inl W_1_111⟩ rfl rfl rfl (sI_ok (fun _ => rfl)) dX5_touch_35 ?_
        exact zx_lv [] [] rfl (j_X5_touch_38 C htab hin    hm)
abbrev cX5_soil : ByteArray := prog_7_method_21_code
def yX5_soil : MethodName := ⟨"SyncTree$Space", "soil", "(I)V"⟩
theorem Y_X5_soil : tY yX5_soil cX5_soil 2 none 1 := ⟨W_5_83, W_1_3, ⟨by decide +kernel, by decide +kernel⟩, by decide +kernel⟩
theorem dX5_soil_0 : decode cX5_soil 0 = .ok (.iload_n 1, 1) := by decide +kernel
theorem dX5_soil_1 : decode cX5_soil 1 = .ok (.ifCond .le 37, 3) := by decide +kernel
theorem dX5_soil_4 : decode cX5_soil 4 = .ok (.iload_n 1, 1) := by decide +kernel
theorem dX5_soil_5 : decode cX5_soil 5 = .ok (.aload_n 0, 1) := by decide +kernel
theorem dX5_soil_6 : decode cX5_soil 6 = .ok (.getfield 48, 3) := by decide +kernel
theorem dX5_soil_9 : decode cX5_soil 9 = .ok (.if_icmp .ge 29, 3) := by decide +kernel
theorem dX5_soil_12 : decode cX5_soil 12 = .ok (.aload_n 0, 1) := by decide +kernel
theorem dX5_soil_13 : decode cX5_soil 13 = .ok (.getfield 33, 3) := by decide +kernel
theorem dX5_soil_16 : decode cX5_soil 16 = .ok (.iload_n 1, 1) := by decide +kernel
theorem dX5_soil_17 : decode cX5_soil 17 = .ok (.baload, 1) := by decide +kernel
theorem dX5_soil_18 : decode cX5_soil 18 = .ok (.ifCond .ne 20, 3) := by decide +kernel
theorem dX5_soil_21 : decode cX5_soil 21 = .ok (.aload_n 0, 1) := by decide +kernel
theorem dX5_soil_22 : decode cX5_soil 22 = .ok (.getfield 33, 3) := by decide +kernel
theorem dX5_soil_25 : decode cX5_soil 25 = .ok (.iload_n 1, 1) := by decide +kernel
theorem dX5_soil_26 : decode cX5_soil 26 = .ok (.iconst 1, 1) := by decide +kernel
theorem dX5_soil_27 : decode cX5_soil 27 = .ok (.bastore, 1) := by decide +kernel
theorem dX5_soil_28 : decode cX5_soil 28 = .ok (.aload_n 0, 1) := by decide +kernel
theorem dX5_soil_29 : decode cX5_soil 29 = .ok (.dup, 1) := by decide +kernel
theorem dX5_soil_30 : decode cX5_soil 30 = .ok (.getfield 65, 3) := by decide +kernel
theorem dX5_soil_33 : decode cX5_soil 33 = .ok (.iconst 1, 1) := by decide +kernel
theorem dX5_soil_34 : decode cX5_soil 34 = .ok (.iadd, 1) := by decide +kernel
theorem dX5_soil_35 : decode cX5_soil 35 = .ok (.putfield 65, 3) := by decide +kernel
theorem dX5_soil_38 : decode cX5_soil 38 = .ok (.return_, 1) := by decide +kernel
set_option maxRecDepth 100000 in
set_option maxHeartbeats 1000000 in
theorem j_X5_soil_38 {p : Program} {l : Launch} {e : Env} {s : State} {m : MethodId} {args : Array Value} {below : List Frame} {meth : Method} {c : Code} {D : va_G} {aC : Nat → ClassId} {b0 fu : Nat} {σ0 τ : tM} {v : Unit}  (C : tCx p l s m args meth c yX5_soil.cls cX5_soil 2 none D aC b0 σ0) (htab : ∀ x ∈ c.exceptionTable.toList, False) (hin : meth.name = yX5_soil.name)   {σ : tM} (hm : J_X5_soil_38 b0 fu   σ = some (v, τ)) : tX p l e s m args below meth c 2 0 0 D aC b0 σ0 (.inl none) τ 38 [] [] σ := by
  unfold J_X5_soil_38 at hm
  obtain ⟨rfl, rfl⟩ := ret_e hm
  exact zx_vret C rfl rfl rfl dX5_soil_38
set_option maxRecDepth 100000 in
set_option maxHeartbeats 1000000 in
theorem c_X5_soil {l : Launch} {D : va_G} {aC : Nat → ClassId} {b0 fu : Nat} {a0 : Nat} {p0 : Int32} {σ τ : tM} {v : Unit} (hm : m_X5_soil b0 fu a0 p0 σ = some (v, τ)) : tMt l D aC b0 yX5_soil (Cond.code yX5_soil cX5_soil 2 none) 0 0 [.ref (a0), .int (p0)] σ (.inl none) τ := by
  unfold m_X5_soil at hm
  obtain ⟨hg, hm⟩ := grw_e hm
  refine tMt_of (n := 0) rfl (Nat.le_of_ble_eq_true rfl) hg ?_
  intro p e s m below meth c C htab hin
  refine zx_lv [0, 1] [(0, .ref (a0)), (1, .int (p0))] rfl ?_
  refine zx_iload_n C dX5_soil_0 1 rfl ?_
  refine zx_if_le C 38 dX5_soil_1 (by decide) (fun c1 => ?_) (fun c1 => ?_)
  · replace hm := ip_e hm c1
    exact zx_lv [] [] rfl (j_X5_soil_38 C htab hin    hm)
  · replace hm := in_e hm c1
    refine zx_iload_n C dX5_soil_4 1 rfl ?_
    refine zx_aload_n C dX5_soil_5 0 rfl ?_
    obtain ⟨k2, i3, hm⟩ := ckO_e hm
    refine zx_get (j := 7) C tC_5 k2 i3 ⟨by decide, Or.inl W_1_104⟩ dX5_soil_6 (.int (tI (σ) (a0) 7)) rfl ?_
    refine zx_icmp_ge C 38 dX5_soil_9 (by decide) (fun c4 => ?_) (fun c4 => ?_)
    · replace hm := ip_e hm c4
      exact zx_lv [] [] rfl (j_X5_soil_38 C htab hin    hm)
    · replace hm := in_e hm c4
      refine zx_aload_n C dX5_soil_12 0 rfl ?_
      obtain ⟨a5, h6, hm⟩ := osm_e hm
      refine zx_get (j := 6) C tC_5 k2 i3 ⟨by decide, Or.inl W_1_102⟩ dX5_soil_13 (.ref a5) (rf_s h6) ?_
      refine zx_iload_n C dX5_soil_16 1 rfl ?_
      obtain ⟨n9, k7, i8, hm⟩ := ckR_e hm
      obtain ⟨h10, hm⟩ := ckI_e hm
      refine zx_bald C k7 i8 h10 dX5_soil_17 ?_
      refine zx_if_ne C 38 dX5_soil_18 (by decide) (fun c11 => ?_) (fun c11 => ?_)
      · replace hm := in_e hm c11
        exact zx_lv [] [] rfl (j_X5_soil_38 C htab hin    hm)
      · replace hm := ip_e hm c11
        refine zx_aload_n C dX5_soil_21 0 rfl ?_
        obtain ⟨a12, h13, hm⟩ := osm_e hm
        refine zx_get (j := 6) C tC_5 k2 i3 ⟨by decide, Or.inl W_1_102⟩ dX5_soil_22 (.ref a12) (rf_s h13) ?_
        refine zx_iload_n C dX5_soil_25 1 rfl ?_
        refine zx_iconst (v := 1) C dX5_soil_26 (by decide) ?_
        obtain ⟨n16, k14, i15, hm⟩ := ckR_e hm
        obtain ⟨h17, hm⟩ := ckI_e hm
        refine zx_bast C k14 i15 h17 dX5_soil_27 ?_
        refine zx_aload_n C dX5_soil_28 0 rfl ?_
        refine zx_dup C dX5_soil_29 rfl ?_
        refine zx_get (j := 13) C tC_5 k2 i3 ⟨by decide, Or.inl W_1_115⟩ dX5_soil_30 (.int (tI (sI (σ) (a12) ((p0).toNatClampNeg) (vp_nar .byte ((1 : Int32)))) (a0) 13)) rfl ?_
        refine zx_iconst (v := 1) C dX5_soil_33 (by decide) ?_
        refine zx_iadd C dX5_soil_34 ?_
        refine zx_put (j := 13) (ρ := sI (sI (σ) (a12) ((p0).toNatClampNeg) (vp_nar .byte ((1 : Int32)))) (a0) 13 ((tI (sI (σ) (a12) ((p0).toNatClampNeg) (vp_nar .byte ((1 : Int32)))) (a0) 13) + (1))) C tC_5 k2 i3 ⟨by decide, Or.inl W_1_115⟩ rfl rfl rfl (sI_ok (fun _ => rfl)) dX5_soil_35 ?_
        exact zx_lv [] [] rfl (j_X5_soil_38 C htab hin    hm)
abbrev cX5_clean : ByteArray := prog_7_method_22_code
def yX5_clean : MethodName := ⟨"SyncTree$Space", "clean", "(I)V"⟩
theorem Y_X5_clean : tY yX5_clean cX5_clean 2 none 1 := ⟨W_2_122, W_1_3, ⟨by decide +kernel, by decide +kernel⟩, by decide +kernel⟩
theorem dX5_clean_0 : decode cX5_clean 0 = .ok (.iload_n 1, 1) := by decide +kernel
theorem dX5_clean_1 : decode cX5_clean 1 = .ok (.ifCond .le 37, 3) := by decide +kernel
theorem dX5_clean_4 : decode cX5_clean 4 = .ok (.iload_n 1, 1) := by decide +kernel
theorem dX5_clean_5 : decode cX5_clean 5 = .ok (.aload_n 0, 1) := by decide +kernel
theorem dX5_clean_6 : decode cX5_clean 6 = .ok (.getfield 48, 3) := by decide +kernel
theorem dX5_clean_9 : decode cX5_clean 9 = .ok (.if_icmp .ge 29, 3) := by decide +kernel
theorem dX5_clean_12 : decode cX5_clean 12 = .ok (.aload_n 0, 1) := by decide +kernel
theorem dX5_clean_13 : decode cX5_clean 13 = .ok (.getfield 33, 3) := by decide +kernel
theorem dX5_clean_16 : decode cX5_clean 16 = .ok (.iload_n 1, 1) := by decide +kernel
theorem dX5_clean_17 : decode cX5_clean 17 = .ok (.baload, 1) := by decide +kernel
theorem dX5_clean_18 : decode cX5_clean 18 = .ok (.ifCond .eq 20, 3) := by decide +kernel
theorem dX5_clean_21 : decode cX5_clean 21 = .ok (.aload_n 0, 1) := by decide +kernel
theorem dX5_clean_22 : decode cX5_clean 22 = .ok (.getfield 33, 3) := by decide +kernel
theorem dX5_clean_25 : decode cX5_clean 25 = .ok (.iload_n 1, 1) := by decide +kernel
theorem dX5_clean_26 : decode cX5_clean 26 = .ok (.iconst 0, 1) := by decide +kernel
theorem dX5_clean_27 : decode cX5_clean 27 = .ok (.bastore, 1) := by decide +kernel
theorem dX5_clean_28 : decode cX5_clean 28 = .ok (.aload_n 0, 1) := by decide +kernel
theorem dX5_clean_29 : decode cX5_clean 29 = .ok (.dup, 1) := by decide +kernel
theorem dX5_clean_30 : decode cX5_clean 30 = .ok (.getfield 65, 3) := by decide +kernel
theorem dX5_clean_33 : decode cX5_clean 33 = .ok (.iconst 1, 1) := by decide +kernel
theorem dX5_clean_34 : decode cX5_clean 34 = .ok (.isub, 1) := by decide +kernel
theorem dX5_clean_35 : decode cX5_clean 35 = .ok (.putfield 65, 3) := by decide +kernel
theorem dX5_clean_38 : decode cX5_clean 38 = .ok (.return_, 1) := by decide +kernel
set_option maxRecDepth 100000 in
set_option maxHeartbeats 1000000 in
theorem j_X5_clean_38 {p : Program} {l : Launch} {e : Env} {s : State} {m : MethodId} {args : Array Value} {below : List Frame} {meth : Method} {c : Code} {D : va_G} {aC : Nat → ClassId} {b0 fu : Nat} {σ0 τ : tM} {v : Unit}  (C : tCx p l s m args meth c yX5_clean.cls cX5_clean 2 none D aC b0 σ0) (htab : ∀ x ∈ c.exceptionTable.toList, False) (hin : meth.name = yX5_clean.name)   {σ : tM} (hm : J_X5_clean_38 b0 fu   σ = some (v, τ)) : tX p l e s m args below meth c 2 0 0 D aC b0 σ0 (.inl none) τ 38 [] [] σ := by
  unfold J_X5_clean_38 at hm
  obtain ⟨rfl, rfl⟩ := ret_e hm
  exact zx_vret C rfl rfl rfl dX5_clean_38
set_option maxRecDepth 100000 in
set_option maxHeartbeats 1000000 in
theorem c_X5_clean {l : Launch} {D : va_G} {aC : Nat → ClassId} {b0 fu : Nat} {a0 : Nat} {p0 : Int32} {σ τ : tM} {v : Unit} (hm : m_X5_clean b0 fu a0 p0 σ = some (v, τ)) : tMt l D aC b0 yX5_clean (Cond.code yX5_clean cX5_clean 2 none) 0 0 [.ref (a0), .int (p0)] σ (.inl none) τ := by
  unfold m_X5_clean at hm
  obtain ⟨hg, hm⟩ := grw_e hm
  refine tMt_of (n := 0) rfl (Nat.le_of_ble_eq_true rfl) hg ?_
  intro p e s m below meth c C htab hin
  refine zx_lv [0, 1] [(0, .ref (a0)), (1, .int (p0))] rfl ?_
  refine zx_iload_n C dX5_clean_0 1 rfl ?_
  refine zx_if_le C 38 dX5_clean_1 (by decide) (fun c1 => ?_) (fun c1 => ?_)
  · replace hm := ip_e hm c1
    exact zx_lv [] [] rfl (j_X5_clean_38 C htab hin    hm)
  · replace hm := in_e hm c1
    refine zx_iload_n C dX5_clean_4 1 rfl ?_
    refine zx_aload_n C dX5_clean_5 0 rfl ?_
    obtain ⟨k2, i3, hm⟩ := ckO_e hm
    refine zx_get (j := 7) C tC_5 k2 i3 ⟨by decide, Or.inl W_1_104⟩ dX5_clean_6 (.int (tI (σ) (a0) 7)) rfl ?_
    refine zx_icmp_ge C 38 dX5_clean_9 (by decide) (fun c4 => ?_) (fun c4 => ?_)
    · replace hm := ip_e hm c4
      exact zx_lv [] [] rfl (j_X5_clean_38 C htab hin    hm)
    · replace hm := in_e hm c4
      refine zx_aload_n C dX5_clean_12 0 rfl ?_
      obtain ⟨a5, h6, hm⟩ := osm_e hm
      refine zx_get (j := 6) C tC_5 k2 i3 ⟨by decide, Or.inl W_1_102⟩ dX5_clean_13 (.ref a5) (rf_s h6) ?_
      refine zx_iload_n C dX5_clean_16 1 rfl ?_
      obtain ⟨n9, k7, i8, hm⟩ := ckR_e hm
      obtain ⟨h10, hm⟩ := ckI_e hm
      refine zx_bald C k7 i8 h10 dX5_clean_17 ?_
      refine zx_if_eq C 38 dX5_clean_18 (by decide) (fun c11 => ?_) (fun c11 => ?_)
      · replace hm := ip_e hm c11
        exact zx_lv [] [] rfl (j_X5_clean_38 C htab hin    hm)
      · replace hm := in_e hm c11
        refine zx_aload_n C dX5_clean_21 0 rfl ?_
        obtain ⟨a12, h13, hm⟩ := osm_e hm
        refine zx_get (j := 6) C tC_5 k2 i3 ⟨by decide, Or.inl W_1_102⟩ dX5_clean_22 (.ref a12) (rf_s h13) ?_
        refine zx_iload_n C dX5_clean_25 1 rfl ?_
        refine zx_iconst (v := 0) C dX5_clean_26 (by decide) ?_
        obtain ⟨n16, k14, i15, hm⟩ := ckR_e hm
        obtain ⟨h17, hm⟩ := ckI_e hm
        refine zx_bast C k14 i15 h17 dX5_clean_27 ?_
        refine zx_aload_n C dX5_clean_28 0 rfl ?_
        refine zx_dup C dX5_clean_29 rfl ?_
        refine zx_get (j := 13) C tC_5 k2 i3 ⟨by decide, Or.inl W_1_115⟩ dX5_clean_30 (.int (tI (sI (σ) (a12) ((p0).toNatClampNeg) (vp_nar .byte ((0 : Int32)))) (a0) 13)) rfl ?_
        refine zx_iconst (v := 1) C dX5_clean_33 (by decide) ?_
        refine zx_isub C dX5_clean_34 ?_
        refine zx_put (j := 13) (ρ := sI (sI (σ) (a12) ((p0).toNatClampNeg) (vp_nar .byte ((0 : Int32)))) (a0) 13 ((tI (sI (σ) (a12) ((p0).toNatClampNeg) (vp_nar .byte ((0 : Int32)))) (a0) 13) - (1))) C tC_5 k2 i3 ⟨by decide, Or.inl W_1_115⟩ rfl rfl rfl (sI_ok (fun _ => rfl)) dX5_clean_35 ?_
        exact zx_lv [] [] rfl (j_X5_clean_38 C htab hin    hm)
abbrev cX5_adopt : ByteArray := prog_7_method_24_code
def yX5_adopt : MethodName := ⟨"SyncTree$Space", "adopt", "(III)V"⟩
theorem Y_X5_adopt : tY yX5_adopt cX5_adopt 4 none 3 := ⟨W_4_210, W_1_3, ⟨by decide +kernel, by decide +kernel⟩, by decide +kernel⟩
theorem dX5_adopt_0 : decode cX5_adopt 0 = .ok (.iload_n 1, 1) := by decide +kernel
theorem dX5_adopt_1 : decode cX5_adopt 1 = .ok (.bipush 34, 2) := by decide +kernel
theorem dX5_adopt_3 : decode cX5_adopt 3 = .ok (.if_icmp .lt 33, 3) := by decide +kernel
theorem dX5_adopt_6 : decode cX5_adopt 6 = .ok (.iload_n 1, 1) := by decide +kernel
theorem dX5_adopt_7 : decode cX5_adopt 7 = .ok (.aload_n 0, 1) := by decide +kernel
theorem dX5_adopt_8 : decode cX5_adopt 8 = .ok (.getfield 48, 3) := by decide +kernel
theorem dX5_adopt_11 : decode cX5_adopt 11 = .ok (.if_icmp .ge 25, 3) := by decide +kernel
theorem dX5_adopt_14 : decode cX5_adopt 14 = .ok (.aload_n 0, 1) := by decide +kernel
theorem dX5_adopt_15 : decode cX5_adopt 15 = .ok (.getfield 16, 3) := by decide +kernel
theorem dX5_adopt_18 : decode cX5_adopt 18 = .ok (.iload_n 1, 1) := by decide +kernel
theorem dX5_adopt_19 : decode cX5_adopt 19 = .ok (.iconst (-1), 1) := by decide +kernel
theorem dX5_adopt_20 : decode cX5_adopt 20 = .ok (.iastore, 1) := by decide +kernel
theorem dX5_adopt_21 : decode cX5_adopt 21 = .ok (.aload_n 0, 1) := by decide +kernel
theorem dX5_adopt_22 : decode cX5_adopt 22 = .ok (.getfield 20, 3) := by decide +kernel
theorem dX5_adopt_25 : decode cX5_adopt 25 = .ok (.iload_n 1, 1) := by decide +kernel
theorem dX5_adopt_26 : decode cX5_adopt 26 = .ok (.iload_n 2, 1) := by decide +kernel
theorem dX5_adopt_27 : decode cX5_adopt 27 = .ok (.iastore, 1) := by decide +kernel
theorem dX5_adopt_28 : decode cX5_adopt 28 = .ok (.aload_n 0, 1) := by decide +kernel
theorem dX5_adopt_29 : decode cX5_adopt 29 = .ok (.getfield 23, 3) := by decide +kernel
theorem dX5_adopt_32 : decode cX5_adopt 32 = .ok (.iload_n 1, 1) := by decide +kernel
theorem dX5_adopt_33 : decode cX5_adopt 33 = .ok (.iload_n 3, 1) := by decide +kernel
theorem dX5_adopt_34 : decode cX5_adopt 34 = .ok (.i2b, 1) := by decide +kernel
theorem dX5_adopt_35 : decode cX5_adopt 35 = .ok (.bastore, 1) := by decide +kernel
theorem dX5_adopt_36 : decode cX5_adopt 36 = .ok (.return_, 1) := by decide +kernel
set_option maxRecDepth 100000 in
set_option maxHeartbeats 1000000 in
theorem j_X5_adopt_36 {p : Program} {l : Launch} {e : Env} {s : State} {m : MethodId} {args : Array Value} {below : List Frame} {meth : Method} {c : Code} {D : va_G} {aC : Nat → ClassId} {b0 fu : Nat} {σ0 τ : tM} {v : Unit}  (C : tCx p l s m args meth c yX5_adopt.cls cX5_adopt 4 none D aC b0 σ0) (htab : ∀ x ∈ c.exceptionTable.toList, False) (hin : meth.name = yX5_adopt.name)   {σ : tM} (hm : J_X5_adopt_36 b0 fu   σ = some (v, τ)) : tX p l e s m args below meth c 4 0 0 D aC b0 σ0 (.inl none) τ 36 [] [] σ := by
  unfold J_X5_adopt_36 at hm
  obtain ⟨rfl, rfl⟩ := ret_e hm
  exact zx_vret C rfl rfl rfl dX5_adopt_36
set_option maxRecDepth 100000 in
set_option maxHeartbeats 1000000 in
theorem c_X5_adopt {l : Launch} {D : va_G} {aC : Nat → ClassId} {b0 fu : Nat} {a0 : Nat} {p0 : Int32} {p1 : Int32} {p2 : Int32} {σ τ : tM} {v : Unit} (hm : m_X5_adopt b0 fu a0 p0 p1 p2 σ = some (v, τ)) : tMt l D aC b0 yX5_adopt (Cond.code yX5_adopt cX5_adopt 4 none) 0 0 [.ref (a0), .int (p0), .int (p1), .int (p2)] σ (.inl none) τ := by
  unfold m_X5_adopt at hm
  obtain ⟨hg, hm⟩ := grw_e hm
  refine tMt_of (n := 0) rfl (Nat.le_of_ble_eq_true rfl) hg ?_
  intro p e s m below meth c C htab hin
  refine zx_lv [0, 1, 2, 3] [(0, .ref (a0)), (1, .int (p0)), (2, .int (p1)), (3, .int (p2))] rfl ?_
  refine zx_iload_n C dX5_adopt_0 1 rfl ?_
  refine zx_bipush (v := 34) C dX5_adopt_1 (by decide) ?_
  refine zx_icmp_lt C 36 dX5_adopt_3 (by decide) (fun c1 => ?_) (fun c1 => ?_)
  · replace hm := ip_e hm c1
    exact zx_lv [] [] rfl (j_X5_adopt_36 C htab hin    hm)
  · replace hm := in_e hm c1
    refine zx_iload_n C dX5_adopt_6 1 rfl ?_
    refine zx_aload_n C dX5_adopt_7 0 rfl ?_
    obtain ⟨k2, i3, hm⟩ := ckO_e hm
    refine zx_get (j := 7) C tC_5 k2 i3 ⟨by decide, Or.inl W_1_104⟩ dX5_adopt_8 (.int (tI (σ) (a0) 7)) rfl ?_
    refine zx_icmp_ge C 36 dX5_adopt_11 (by decide) (fun c4 => ?_) (fun c4 => ?_)
    · replace hm := ip_e hm c4
      exact zx_lv [] [] rfl (j_X5_adopt_36 C htab hin    hm)
    · replace hm := in_e hm c4
      refine zx_aload_n C dX5_adopt_14 0 rfl ?_
      obtain ⟨a5, h6, hm⟩ := osm_e hm
      refine zx_get (j := 1) C tC_5 k2 i3 ⟨by decide, Or.inl W_1_97⟩ dX5_adopt_15 (.ref a5) (rf_s h6) ?_
      refine zx_iload_n C dX5_adopt_18 1 rfl ?_
      refine zx_iconst (v := (-1)) C dX5_adopt_19 (by decide) ?_
      obtain ⟨n9, k7, i8, hm⟩ := ckR_e hm
      obtain ⟨h10, hm⟩ := ckI_e hm
      refine zx_iast C k7 i8 h10 dX5_adopt_20 ?_
      refine zx_aload_n C dX5_adopt_21 0 rfl ?_
      obtain ⟨a11, h12, hm⟩ := osm_e hm
      refine zx_get (j := 2) C tC_5 k2 i3 ⟨by decide, Or.inl W_1_98⟩ dX5_adopt_22 (.ref a11) (rf_s h12) ?_
      refine zx_iload_n C dX5_adopt_25 1 rfl ?_
      refine zx_iload_n C dX5_adopt_26 2 rfl ?_
      obtain ⟨n15, k13, i14, hm⟩ := ckR_e hm
      obtain ⟨h16, hm⟩ := ckI_e hm
      refine zx_iast C k13 i14 h16 dX5_adopt_27 ?_
      refine zx_aload_n C dX5_adopt_28 0 rfl ?_
      obtain ⟨a17, h18, hm⟩ := osm_e hm
      refine zx_get (j := 3) C tC_5 k2 i3 ⟨by decide, Or.inl W_1_99⟩ dX5_adopt_29 (.ref a17) (rf_s h18) ?_
      refine zx_iload_n C dX5_adopt_32 1 rfl ?_
      refine zx_iload_n C dX5_adopt_33 3 rfl ?_
      refine zx_i2b C dX5_adopt_34 ?_
      obtain ⟨n21, k19, i20, hm⟩ := ckR_e hm
      obtain ⟨h22, hm⟩ := ckI_e hm
      refine zx_bast C k19 i20 h22 dX5_adopt_35 ?_
      exact zx_lv [] [] rfl (j_X5_adopt_36 C htab hin    hm)
abbrev cX5_revoke : ByteArray := prog_7_method_26_code
def yX5_revoke : MethodName := ⟨"SyncTree$Space", "revoke", "(I)V"⟩
theorem Y_X5_revoke : tY yX5_revoke cX5_revoke 2 none 1 := ⟨W_5_53, W_1_3, ⟨by decide +kernel, by decide +kernel⟩, by decide +kernel⟩
theorem dX5_revoke_0 : decode cX5_revoke 0 = .ok (.aload_n 0, 1) := by decide +kernel
theorem dX5_revoke_1 : decode cX5_revoke 1 = .ok (.getfield 27, 3) := by decide +kernel
theorem dX5_revoke_4 : decode cX5_revoke 4 = .ok (.iload_n 1, 1) := by decide +kernel
theorem dX5_revoke_5 : decode cX5_revoke 5 = .ok (.baload, 1) := by decide +kernel
theorem dX5_revoke_6 : decode cX5_revoke 6 = .ok (.ifCond .eq 20, 3) := by decide +kernel
theorem dX5_revoke_9 : decode cX5_revoke 9 = .ok (.aload_n 0, 1) := by decide +kernel
theorem dX5_revoke_10 : decode cX5_revoke 10 = .ok (.getfield 27, 3) := by decide +kernel
theorem dX5_revoke_13 : decode cX5_revoke 13 = .ok (.iload_n 1, 1) := by decide +kernel
theorem dX5_revoke_14 : decode cX5_revoke 14 = .ok (.iconst 0, 1) := by decide +kernel
theorem dX5_revoke_15 : decode cX5_revoke 15 = .ok (.bastore, 1) := by decide +kernel
theorem dX5_revoke_16 : decode cX5_revoke 16 = .ok (.aload_n 0, 1) := by decide +kernel
theorem dX5_revoke_17 : decode cX5_revoke 17 = .ok (.dup, 1) := by decide +kernel
theorem dX5_revoke_18 : decode cX5_revoke 18 = .ok (.getfield 78, 3) := by decide +kernel
theorem dX5_revoke_21 : decode cX5_revoke 21 = .ok (.iconst 1, 1) := by decide +kernel
theorem dX5_revoke_22 : decode cX5_revoke 22 = .ok (.isub, 1) := by decide +kernel
theorem dX5_revoke_23 : decode cX5_revoke 23 = .ok (.putfield 78, 3) := by decide +kernel
theorem dX5_revoke_26 : decode cX5_revoke 26 = .ok (.aload_n 0, 1) := by decide +kernel
theorem dX5_revoke_27 : decode cX5_revoke 27 = .ok (.getfield 30, 3) := by decide +kernel
theorem dX5_revoke_30 : decode cX5_revoke 30 = .ok (.iload_n 1, 1) := by decide +kernel
theorem dX5_revoke_31 : decode cX5_revoke 31 = .ok (.baload, 1) := by decide +kernel
theorem dX5_revoke_32 : decode cX5_revoke 32 = .ok (.ifCond .ne 20, 3) := by decide +kernel
theorem dX5_revoke_35 : decode cX5_revoke 35 = .ok (.aload_n 0, 1) := by decide +kernel
theorem dX5_revoke_36 : decode cX5_revoke 36 = .ok (.getfield 30, 3) := by decide +kernel
theorem dX5_revoke_39 : decode cX5_revoke 39 = .ok (.iload_n 1, 1) := by decide +kernel
theorem dX5_revoke_40 : decode cX5_revoke 40 = .ok (.iconst 1, 1) := by decide +kernel
theorem dX5_revoke_41 : decode cX5_revoke 41 = .ok (.bastore, 1) := by decide +kernel
theorem dX5_revoke_42 : decode cX5_revoke 42 = .ok (.aload_n 0, 1) := by decide +kernel
theorem dX5_revoke_43 : decode cX5_revoke 43 = .ok (.dup, 1) := by decide +kernel
theorem dX5_revoke_44 : decode cX5_revoke 44 = .ok (.getfield 81, 3) := by decide +kernel
theorem dX5_revoke_47 : decode cX5_revoke 47 = .ok (.iconst 1, 1) := by decide +kernel
theorem dX5_revoke_48 : decode cX5_revoke 48 = .ok (.iadd, 1) := by decide +kernel
theorem dX5_revoke_49 : decode cX5_revoke 49 = .ok (.putfield 81, 3) := by decide +kernel
theorem dX5_revoke_52 : decode cX5_revoke 52 = .ok (.return_, 1) := by decide +kernel
set_option maxRecDepth 100000 in
set_option maxHeartbeats 1000000 in
theorem j_X5_revoke_52 {p : Program} {l : Launch} {e : Env} {s : State} {m : MethodId} {args : Array Value} {below : List Frame} {meth : Method} {c : Code} {D : va_G} {aC : Nat → ClassId} {b0 fu : Nat} {σ0 τ : tM} {v : Unit}  (C : tCx p l s m args meth c yX5_revoke.cls cX5_revoke 2 none D aC b0 σ0) (htab : ∀ x ∈ c.exceptionTable.toList, False) (hin : meth.name = yX5_revoke.name)   {σ : tM} (hm : J_X5_revoke_52 b0 fu   σ = some (v, τ)) : tX p l e s m args below meth c 2 0 0 D aC b0 σ0 (.inl none) τ 52 [] [] σ := by
  unfold J_X5_revoke_52 at hm
  obtain ⟨rfl, rfl⟩ := ret_e hm
  exact zx_vret C rfl rfl rfl dX5_revoke_52
set_option maxRecDepth 100000 in
set_option maxHeartbeats 1000000 in
theorem j_X5_revoke_26 {p : Program} {l : Launch} {e : Env} {s : State} {m : MethodId} {args : Array Value} {below : List Frame} {meth : Method} {c : Code} {D : va_G} {aC : Nat → ClassId} {b0 fu : Nat} {σ0 τ : tM} {v : Unit}  (C : tCx p l s m args meth c yX5_revoke.cls cX5_revoke 2 none D aC b0 σ0) (htab : ∀ x ∈ c.exceptionTable.toList, False) (hin : meth.name = yX5_revoke.name)  {x0 : Nat} {x1 : Int32} {σ : tM} (hm : J_X5_revoke_26 b0 fu  x0 x1 σ = some (v, τ)) : tX p l e s m args below meth c 2 0 0 D aC b0 σ0 (.inl none) τ 26 [(0, .ref (x0)), (1, .int (x1))] [] σ := by
  unfold J_X5_revoke_26 at hm
  refine zx_aload_n C dX5_revoke_26 0 rfl ?_
  obtain ⟨k10, i11, hm⟩ := ckO_e hm
  obtain ⟨a12, h13, hm⟩ := osm_e hm
  refine zx_get (j := 5) C tC_5 k10 i11 ⟨by decide, Or.inl W_1_101⟩ dX5_revoke_27 (.ref a12) (rf_s h13) ?_
  refine zx_iload_n C dX5_revoke_30 1 rfl ?_
  obtain ⟨n16, k14, i15, hm⟩ := ckR_e hm
  obtain ⟨h17, hm⟩ := ckI_e hm
  refine zx_bald C k14 i15 h17 dX5_revoke_31 ?_
  refine zx_if_ne C 52 dX5_revoke_32 (by decide) (fun c18 => ?_) (fun c18 => ?_)
  · replace hm := in_e hm c18
    exact zx_lv [] [] rfl (j_X5_revoke_52 C htab hin    hm)
  · replace hm := ip_e hm c18
    refine zx_aload_n C dX5_revoke_35 0 rfl ?_
    obtain ⟨a19, h20, hm⟩ := osm_e hm
    refine zx_get (j := 5) C tC_5 k10 i11 ⟨by decide, Or.inl W_1_101⟩ dX5_revoke_36 (.ref a19) (rf_s h20) ?_
    refine zx_iload_n C dX5_revoke_39 1 rfl ?_
    refine zx_iconst (v := 1) C dX5_revoke_40 (by decide) ?_
    obtain ⟨n23, k21, i22, hm⟩ := ckR_e hm
    obtain ⟨h24, hm⟩ := ckI_e hm
    refine zx_bast C k21 i22 h24 dX5_revoke_41 ?_
    refine zx_aload_n C dX5_revoke_42 0 rfl ?_
    refine zx_dup C dX5_revoke_43 rfl ?_
    refine zx_get (j := 12) C tC_5 k10 i11 ⟨by decide, Or.inl W_1_113⟩ dX5_revoke_44 (.int (tI (sI (σ) (a19) ((x1).toNatClampNeg) (vp_nar .byte ((1 : Int32)))) (x0) 12)) rfl ?_
    refine zx_iconst (v := 1) C dX5_revoke_47 (by decide) ?_
    refine zx_iadd C dX5_revoke_48 ?_
    refine zx_put (j := 12) (ρ := sI (sI (σ) (a19) ((x1).toNatClampNeg) (vp_nar .byte ((1 : Int32)))) (x0) 12 ((tI (sI (σ) (a19) ((x1).toNatClampNeg) (vp_nar .byte ((1 : Int32)))) (x0) 12) + (1))) C tC_5 k10 i11 ⟨by decide, Or.inl W_1_113⟩ rfl rfl rfl (sI_ok (fun _ => rfl)) dX5_revoke_49 ?_
    exact zx_lv [] [] rfl (j_X5_revoke_52 C htab hin    hm)
set_option maxRecDepth 100000 in
set_option maxHeartbeats 1000000 in
theorem c_X5_revoke {l : Launch} {D : va_G} {aC : Nat → ClassId} {b0 fu : Nat} {a0 : Nat} {p0 : Int32} {σ τ : tM} {v : Unit} (hm : m_X5_revoke b0 fu a0 p0 σ = some (v, τ)) : tMt l D aC b0 yX5_revoke (Cond.code yX5_revoke cX5_revoke 2 none) 0 0 [.ref (a0), .int (p0)] σ (.inl none) τ := by
  unfold m_X5_revoke at hm
  obtain ⟨hg, hm⟩ := grw_e hm
  refine tMt_of (n := 0) rfl (Nat.le_of_ble_eq_true rfl) hg ?_
  intro p e s m below meth c C htab hin
  refine zx_lv [0, 1] [(0, .ref (a0)), (1, .int (p0))] rfl ?_
  refine zx_aload_n C dX5_revoke_0 0 rfl ?_
  obtain ⟨k1, i2, hm⟩ := ckO_e hm
  obtain ⟨a3, h4, hm⟩ := osm_e hm
  refine zx_get (j := 4) C tC_5 k1 i2 ⟨by decide, Or.inl W_1_100⟩ dX5_revoke_1 (.ref a3) (rf_s h4) ?_
  refine zx_iload_n C dX5_revoke_4 1 rfl ?_
  obtain ⟨n7, k5, i6, hm⟩ := ckR_e hm
  obtain ⟨h8, hm⟩ := ckI_e hm
  refine zx_bald C k5 i6 h8 dX5_revoke_5 ?_
  refine zx_if_eq C 26 dX5_revoke_6 (by decide) (fun c9 => ?_) (fun c9 => ?_)
  · replace hm := ip_e hm c9
    exact zx_lv [0, 1] [(0, .ref (a0)), (1, .int (p0))] rfl (j_X5_revoke_26 C htab hin    hm)
  · replace hm := in_e hm c9
    refine zx_aload_n C dX5_revoke_9 0 rfl ?_
    obtain ⟨a25, h26, hm⟩ := osm_e hm
    refine zx_get (j := 4) C tC_5 k1 i2 ⟨by decide, Or.inl W_1_100⟩ dX5_revoke_10 (.ref a25) (rf_s h26) ?_
    refine zx_iload_n C dX5_revoke_13 1 rfl ?_
    refine zx_iconst (v := 0) C dX5_revoke_14 (by decide) ?_
    obtain ⟨n29, k27, i28, hm⟩ := ckR_e hm
    obtain ⟨h30, hm⟩ := ckI_e hm
    refine zx_bast C k27 i28 h30 dX5_revoke_15 ?_
    refine zx_aload_n C dX5_revoke_16 0 rfl ?_
    refine zx_dup C dX5_revoke_17 rfl ?_
    refine zx_get (j := 11) C tC_5 k1 i2 ⟨by decide, Or.inl W_1_111⟩ dX5_revoke_18 (.int (tI (sI (σ) (a25) ((p0).toNatClampNeg) (vp_nar .byte ((0 : Int32)))) (a0) 11)) rfl ?_
    refine zx_iconst (v := 1) C dX5_revoke_21 (by decide) ?_
    refine zx_isub C dX5_revoke_22 ?_
    refine zx_put (j := 11) (ρ := sI (sI (σ) (a25) ((p0).toNatClampNeg) (vp_nar .byte ((0 : Int32)))) (a0) 11 ((tI (sI (σ) (a25) ((p0).toNatClampNeg) (vp_nar .byte ((0 : Int32)))) (a0) 11) - (1))) C tC_5 k1 i2 ⟨by decide, Or.inl W_1_111⟩ rfl rfl rfl (sI_ok (fun _ => rfl)) dX5_revoke_23 ?_
    exact zx_lv [0, 1] [(0, .ref (a0)), (1, .int (p0))] rfl (j_X5_revoke_26 C htab hin    hm)
abbrev cX5_mark : ByteArray := prog_7_method_27_code
def yX5_mark : MethodName := ⟨"SyncTree$Space", "mark", "(IZ)V"⟩
theorem Y_X5_mark : tY yX5_mark cX5_mark 7 none 2 := ⟨W_4_214, W_1_3, ⟨by decide +kernel, by decide +kernel⟩, by decide +kernel⟩
theorem dX5_mark_0 : decode cX5_mark 0 = .ok (.iload_n 1, 1) := by decide +kernel
theorem dX5_mark_1 : decode cX5_mark 1 = .ok (.bipush 34, 2) := by decide +kernel
theorem dX5_mark_3 : decode cX5_mark 3 = .ok (.isub, 1) := by decide +kernel
theorem dX5_mark_4 : decode cX5_mark 4 = .ok (.istore_n 3, 1) := by decide +kernel
theorem dX5_mark_5 : decode cX5_mark 5 = .ok (.bipush 32, 2) := by decide +kernel
theorem dX5_mark_7 : decode cX5_mark 7 = .ok (.iload_n 3, 1) := by decide +kernel
theorem dX5_mark_8 : decode cX5_mark 8 = .ok (.bipush 6, 2) := by decide +kernel
theorem dX5_mark_10 : decode cX5_mark 10 = .ok (.ishr, 1) := by decide +kernel
theorem dX5_mark_11 : decode cX5_mark 11 = .ok (.bipush 31, 2) := by decide +kernel
theorem dX5_mark_13 : decode cX5_mark 13 = .ok (.iand, 1) := by decide +kernel
theorem dX5_mark_14 : decode cX5_mark 14 = .ok (.iadd, 1) := by decide +kernel
theorem dX5_mark_15 : decode cX5_mark 15 = .ok (.istore 4, 2) := by decide +kernel
theorem dX5_mark_17 : decode cX5_mark 17 = .ok (.lconst 1, 1) := by decide +kernel
theorem dX5_mark_18 : decode cX5_mark 18 = .ok (.iload_n 3, 1) := by decide +kernel
theorem dX5_mark_19 : decode cX5_mark 19 = .ok (.bipush 63, 2) := by decide +kernel
theorem dX5_mark_21 : decode cX5_mark 21 = .ok (.iand, 1) := by decide +kernel
theorem dX5_mark_22 : decode cX5_mark 22 = .ok (.lshl, 1) := by decide +kernel
theorem dX5_mark_23 : decode cX5_mark 23 = .ok (.lstore 5, 2) := by decide +kernel
theorem dX5_mark_25 : decode cX5_mark 25 = .ok (.aload_n 0, 1) := by decide +kernel
theorem dX5_mark_26 : decode cX5_mark 26 = .ok (.getfield 10, 3) := by decide +kernel
theorem dX5_mark_29 : decode cX5_mark 29 = .ok (.iload 4, 2) := by decide +kernel
theorem dX5_mark_31 : decode cX5_mark 31 = .ok (.iload_n 2, 1) := by decide +kernel
theorem dX5_mark_32 : decode cX5_mark 32 = .ok (.ifCond .eq 16, 3) := by decide +kernel
theorem dX5_mark_35 : decode cX5_mark 35 = .ok (.aload_n 0, 1) := by decide +kernel
theorem dX5_mark_36 : decode cX5_mark 36 = .ok (.getfield 10, 3) := by decide +kernel
theorem dX5_mark_39 : decode cX5_mark 39 = .ok (.iload 4, 2) := by decide +kernel
theorem dX5_mark_41 : decode cX5_mark 41 = .ok (.laload, 1) := by decide +kernel
theorem dX5_mark_42 : decode cX5_mark 42 = .ok (.lload 5, 2) := by decide +kernel
theorem dX5_mark_44 : decode cX5_mark 44 = .ok (.lor, 1) := by decide +kernel
theorem dX5_mark_45 : decode cX5_mark 45 = .ok (.goto 17, 3) := by decide +kernel
theorem dX5_mark_48 : decode cX5_mark 48 = .ok (.aload_n 0, 1) := by decide +kernel
theorem dX5_mark_49 : decode cX5_mark 49 = .ok (.getfield 10, 3) := by decide +kernel
theorem dX5_mark_52 : decode cX5_mark 52 = .ok (.iload 4, 2) := by decide +kernel
theorem dX5_mark_54 : decode cX5_mark 54 = .ok (.laload, 1) := by decide +kernel
theorem dX5_mark_55 : decode cX5_mark 55 = .ok (.lload 5, 2) := by decide +kernel
theorem dX5_mark_57 : decode cX5_mark 57 = .ok (.ldc2_w 102, 3) := by decide +kernel
theorem dX5_mark_60 : decode cX5_mark 60 = .ok (.lxor, 1) := by decide +kernel
theorem dX5_mark_61 : decode cX5_mark 61 = .ok (.land, 1) := by decide +kernel
theorem dX5_mark_62 : decode cX5_mark 62 = .ok (.lastore, 1) := by decide +kernel
theorem dX5_mark_63 : decode cX5_mark 63 = .ok (.return_, 1) := by decide +kernel
set_option maxRecDepth 100000 in
set_option maxHeartbeats 1000000 in
theorem j_X5_mark_62 {p : Program} {l : Launch} {e : Env} {s : State} {m : MethodId} {args : Array Value} {below : List Frame} {meth : Method} {c : Code} {D : va_G} {aC : Nat → ClassId} {b0 fu : Nat} {σ0 τ : tM} {v : Unit}  (C : tCx p l s m args meth c yX5_mark.cls cX5_mark 7 none D aC b0 σ0) (htab : ∀ x ∈ c.exceptionTable.toList, False) (hin : meth.name = yX5_mark.name)  {s0 : Nat} {s1 : Int32} {s2 : Int64} {σ : tM} (hm : J_X5_mark_62 b0 fu  s0 s1 s2 σ = some (v, τ)) : tX p l e s m args below meth c 7 0 0 D aC b0 σ0 (.inl none) τ 62 [] [.long (s2), .int (s1), .ref (s0)] σ := by
  unfold J_X5_mark_62 at hm
  obtain ⟨n17, k15, i16, hm⟩ := ckR_e hm
  obtain ⟨h18, hm⟩ := ckI_e hm
  refine zx_last C k15 i16 h18 dX5_mark_62 ?_
  obtain ⟨rfl, rfl⟩ := ret_e hm
  exact zx_vret C rfl rfl rfl dX5_mark_63
set_option maxRecDepth 100000 in
set_option maxHeartbeats 1000000 in
theorem c_X5_mark {l : Launch} {D : va_G} {aC : Nat → ClassId} {b0 fu : Nat} {a0 : Nat} {p0 : Int32} {p1 : Int32} {σ τ : tM} {v : Unit} (hm : m_X5_mark b0 fu a0 p0 p1 σ = some (v, τ)) : tMt l D aC b0 yX5_mark (Cond.code yX5_mark cX5_mark 7 none) 0 0 [.ref (a0), .int (p0), .int (p1)] σ (.inl none) τ := by
  unfold m_X5_mark at hm
  obtain ⟨hg, hm⟩ := grw_e hm
  refine tMt_of (n := 0) rfl (Nat.le_of_ble_eq_true rfl) hg ?_
  intro p e s m below meth c C htab hin
  refine zx_lv [0, 1, 2] [(0, .ref (a0)), (1, .int (p0)), (2, .int (p1))] rfl ?_
  refine zx_iload_n C dX5_mark_0 1 rfl ?_
  refine zx_bipush (v := 34) C dX5_mark_1 (by decide) ?_
  refine zx_isub C dX5_mark_3 ?_
  refine zx_topi (fun y1 hy1 => ?_)
  replace hm := ltb_e hm hy1
  refine zx_istore_n C [(3, .int (y1)), (0, .ref (a0)), (1, .int (p0)), (2, .int (p1))] dX5_mark_4 rfl (by decide) rfl ?_
  refine zx_bipush (v := 32) C dX5_mark_5 (by decide) ?_
  refine zx_iload_n C dX5_mark_7 0 rfl ?_
  refine zx_bipush (v := 6) C dX5_mark_8 (by decide) ?_
  refine zx_ishr C dX5_mark_10 ?_
  refine zx_bipush (v := 31) C dX5_mark_11 (by decide) ?_
  refine zx_iand C dX5_mark_13 ?_
  refine zx_iadd C dX5_mark_14 ?_
  refine zx_topi (fun y2 hy2 => ?_)
  replace hm := ltb_e hm hy2
  refine zx_istore C [(4, .int (y2)), (3, .int (y1)), (0, .ref (a0)), (1, .int (p0)), (2, .int (p1))] dX5_mark_15 (by decide) rfl ?_
  refine zx_lconst (v := 1) C dX5_mark_17 (by decide) ?_
  refine zx_iload_n C dX5_mark_18 1 rfl ?_
  refine zx_bipush (v := 63) C dX5_mark_19 (by decide) ?_
  refine zx_iand C dX5_mark_21 ?_
  refine zx_lshl C dX5_mark_22 ?_
  refine zx_topl (fun y3 hy3 => ?_)
  replace hm := ltb_e hm hy3
  refine zx_lstore C [(5, .long (y3)), (4, .int (y2)), (3, .int (y1)), (0, .ref (a0)), (1, .int (p0)), (2, .int (p1))] dX5_mark_23 (by decide) rfl ?_
  refine zx_aload_n C dX5_mark_25 3 rfl ?_
  obtain ⟨k4, i5, hm⟩ := ckO_e hm
  obtain ⟨a6, h7, hm⟩ := osm_e hm
  refine zx_get (j := 0) C tC_5 k4 i5 ⟨by decide, Or.inl W_1_94⟩ dX5_mark_26 (.ref a6) (rf_s h7) ?_
  refine zx_iload C dX5_mark_29 1 rfl ?_
  refine zx_iload_n C dX5_mark_31 5 rfl ?_
  refine zx_if_eq C 48 dX5_mark_32 (by decide) (fun c8 => ?_) (fun c8 => ?_)
  · replace hm := ip_e hm c8
    refine zx_aload_n C dX5_mark_48 3 rfl ?_
    obtain ⟨a9, h10, hm⟩ := osm_e hm
    refine zx_get (j := 0) C tC_5 k4 i5 ⟨by decide, Or.inl W_1_94⟩ dX5_mark_49 (.ref a9) (rf_s h10) ?_
    refine zx_iload C dX5_mark_52 1 rfl ?_
    obtain ⟨n13, k11, i12, hm⟩ := ckR_e hm
    obtain ⟨h14, hm⟩ := ckI_e hm
    refine zx_lald C k11 i12 h14 dX5_mark_54 ?_
    refine zx_lload C dX5_mark_55 0 rfl ?_
    refine zx_ldc2 (v := (-1)) C W_4_185 dX5_mark_57 ?_
    refine zx_lxor C dX5_mark_60 ?_
    refine zx_land C dX5_mark_61 ?_
    exact zx_lv [] [] rfl (j_X5_mark_62 C htab hin    hm)
  · replace hm := in_e hm c8
    refine zx_aload_n C dX5_mark_35 3 rfl ?_
    obtain ⟨a19, h20, hm⟩ := osm_e hm
    refine zx_get (j := 0) C tC_5 k4 i5 ⟨by decide, Or.inl W_1_94⟩ dX5_mark_36 (.ref a19) (rf_s h20) ?_
    refine zx_iload C dX5_mark_39 1 rfl ?_
    obtain ⟨n23, k21, i22, hm⟩ := ckR_e hm
    obtain ⟨h24, hm⟩ := ckI_e hm
    refine zx_lald C k21 i22 h24 dX5_mark_41 ?_
    refine zx_lload C dX5_mark_42 0 rfl ?_
    refine zx_lor C dX5_mark_44 ?_
    refine zx_goto C 62 dX5_mark_45 (by decide) ?_
    exact zx_lv [] [] rfl (j_X5_mark_62 C htab hin    hm)
abbrev cX5_freeRetired : ByteArray := prog_7_method_28_code
def yX5_freeRetired : MethodName := ⟨"SyncTree$Space", "freeRetired", "(I)V"⟩
theorem Y_X5_freeRetired : tY yX5_freeRetired cX5_freeRetired 3 none 1 := ⟨W_3_219, W_1_3, ⟨by decide +kernel, by decide +kernel⟩, by decide +kernel⟩
theorem dX5_freeRetired_0 : decode cX5_freeRetired 0 = .ok (.bipush 34, 2) := by decide +kernel
theorem dX5_freeRetired_2 : decode cX5_freeRetired 2 = .ok (.istore_n 2, 1) := by decide +kernel
theorem dX5_freeRetired_3 : decode cX5_freeRetired 3 = .ok (.iload_n 2, 1) := by decide +kernel
theorem dX5_freeRetired_4 : decode cX5_freeRetired 4 = .ok (.aload_n 0, 1) := by decide +kernel
theorem dX5_freeRetired_5 : decode cX5_freeRetired 5 = .ok (.getfield 48, 3) := by decide +kernel
theorem dX5_freeRetired_8 : decode cX5_freeRetired 8 = .ok (.if_icmp .ge 74, 3) := by decide +kernel
theorem dX5_freeRetired_11 : decode cX5_freeRetired 11 = .ok (.aload_n 0, 1) := by decide +kernel
theorem dX5_freeRetired_12 : decode cX5_freeRetired 12 = .ok (.getfield 87, 3) := by decide +kernel
theorem dX5_freeRetired_15 : decode cX5_freeRetired 15 = .ok (.ifCond .le 67, 3) := by decide +kernel
theorem dX5_freeRetired_18 : decode cX5_freeRetired 18 = .ok (.aload_n 0, 1) := by decide +kernel
theorem dX5_freeRetired_19 : decode cX5_freeRetired 19 = .ok (.getfield 16, 3) := by decide +kernel
theorem dX5_freeRetired_22 : decode cX5_freeRetired 22 = .ok (.iload_n 2, 1) := by decide +kernel
theorem dX5_freeRetired_23 : decode cX5_freeRetired 23 = .ok (.iaload, 1) := by decide +kernel
theorem dX5_freeRetired_24 : decode cX5_freeRetired 24 = .ok (.ifCond .le 52, 3) := by decide +kernel
theorem dX5_freeRetired_27 : decode cX5_freeRetired 27 = .ok (.aload_n 0, 1) := by decide +kernel
theorem dX5_freeRetired_28 : decode cX5_freeRetired 28 = .ok (.getfield 16, 3) := by decide +kernel
theorem dX5_freeRetired_31 : decode cX5_freeRetired 31 = .ok (.iload_n 2, 1) := by decide +kernel
theorem dX5_freeRetired_32 : decode cX5_freeRetired 32 = .ok (.iaload, 1) := by decide +kernel
theorem dX5_freeRetired_33 : decode cX5_freeRetired 33 = .ok (.iload_n 1, 1) := by decide +kernel
theorem dX5_freeRetired_34 : decode cX5_freeRetired 34 = .ok (.if_icmp .gt 42, 3) := by decide +kernel
theorem dX5_freeRetired_37 : decode cX5_freeRetired 37 = .ok (.aload_n 0, 1) := by decide +kernel
theorem dX5_freeRetired_38 : decode cX5_freeRetired 38 = .ok (.getfield 16, 3) := by decide +kernel
theorem dX5_freeRetired_41 : decode cX5_freeRetired 41 = .ok (.iload_n 2, 1) := by decide +kernel
theorem dX5_freeRetired_42 : decode cX5_freeRetired 42 = .ok (.iconst 0, 1) := by decide +kernel
theorem dX5_freeRetired_43 : decode cX5_freeRetired 43 = .ok (.iastore, 1) := by decide +kernel
theorem dX5_freeRetired_44 : decode cX5_freeRetired 44 = .ok (.aload_n 0, 1) := by decide +kernel
theorem dX5_freeRetired_45 : decode cX5_freeRetired 45 = .ok (.dup, 1) := by decide +kernel
theorem dX5_freeRetired_46 : decode cX5_freeRetired 46 = .ok (.getfield 87, 3) := by decide +kernel
theorem dX5_freeRetired_49 : decode cX5_freeRetired 49 = .ok (.iconst 1, 1) := by decide +kernel
theorem dX5_freeRetired_50 : decode cX5_freeRetired 50 = .ok (.isub, 1) := by decide +kernel
theorem dX5_freeRetired_51 : decode cX5_freeRetired 51 = .ok (.putfield 87, 3) := by decide +kernel
theorem dX5_freeRetired_54 : decode cX5_freeRetired 54 = .ok (.aload_n 0, 1) := by decide +kernel
theorem dX5_freeRetired_55 : decode cX5_freeRetired 55 = .ok (.dup, 1) := by decide +kernel
theorem dX5_freeRetired_56 : decode cX5_freeRetired 56 = .ok (.getfield 84, 3) := by decide +kernel
theorem dX5_freeRetired_59 : decode cX5_freeRetired 59 = .ok (.iconst 1, 1) := by decide +kernel
theorem dX5_freeRetired_60 : decode cX5_freeRetired 60 = .ok (.iadd, 1) := by decide +kernel
theorem dX5_freeRetired_61 : decode cX5_freeRetired 61 = .ok (.putfield 84, 3) := by decide +kernel
theorem dX5_freeRetired_64 : decode cX5_freeRetired 64 = .ok (.aload_n 0, 1) := by decide +kernel
theorem dX5_freeRetired_65 : decode cX5_freeRetired 65 = .ok (.aload_n 0, 1) := by decide +kernel
theorem dX5_freeRetired_66 : decode cX5_freeRetired 66 = .ok (.getfield 90, 3) := by decide +kernel
theorem dX5_freeRetired_69 : decode cX5_freeRetired 69 = .ok (.iload_n 2, 1) := by decide +kernel
theorem dX5_freeRetired_70 : decode cX5_freeRetired 70 = .ok (.invokestatic 39, 3) := by decide +kernel
theorem dX5_freeRetired_73 : decode cX5_freeRetired 73 = .ok (.putfield 90, 3) := by decide +kernel
theorem dX5_freeRetired_76 : decode cX5_freeRetired 76 = .ok (.iinc 2 1, 3) := by decide +kernel
theorem dX5_freeRetired_79 : decode cX5_freeRetired 79 = .ok (.goto (-76), 3) := by decide +kernel
theorem dX5_freeRetired_82 : decode cX5_freeRetired 82 = .ok (.return_, 1) := by decide +kernel
set_option maxRecDepth 100000 in
set_option maxHeartbeats 1000000 in
theorem j_X5_freeRetired_82 {p : Program} {l : Launch} {e : Env} {s : State} {m : MethodId} {args : Array Value} {below : List Frame} {meth : Method} {c : Code} {D : va_G} {aC : Nat → ClassId} {b0 fu : Nat} {σ0 τ : tM} {v : Unit}  (C : tCx p l s m args meth c yX5_freeRetired.cls cX5_freeRetired 3 none D aC b0 σ0) (htab : ∀ x ∈ c.exceptionTable.toList, False) (hin : meth.name = yX5_freeRetired.name)   {σ : tM} (hm : J_X5_freeRetired_82 b0 fu   σ = some (v, τ)) : tX p l e s m args below meth c 3 1 21 D aC b0 σ0 (.inl none) τ 82 [] [] σ := by
  unfold J_X5_freeRetired_82 at hm
  obtain ⟨rfl, rfl⟩ := ret_e hm
  exact zx_vret C rfl rfl rfl dX5_freeRetired_82
set_option maxRecDepth 100000 in
set_option maxHeartbeats 1000000 in
theorem j_X5_freeRetired_76 {p : Program} {l : Launch} {e : Env} {s : State} {m : MethodId} {args : Array Value} {below : List Frame} {meth : Method} {c : Code} {D : va_G} {aC : Nat → ClassId} {b0 fu : Nat} {σ0 τ : tM} {v : Unit} {rc3 : Nat → Int32 → Int32 → tM → Option ((Unit) × tM)} (C : tCx p l s m args meth c yX5_freeRetired.cls cX5_freeRetired 3 none D aC b0 σ0) (htab : ∀ x ∈ c.exceptionTable.toList, False) (hin : meth.name = yX5_freeRetired.name) (hrc3 : ∀ (x0 : Nat) (x1 : Int32) (x2 : Int32) (ρ : tM), rc3 x0 x1 x2 ρ = some (v, τ) → tX p l e s m args below meth c 3 1 21 D aC b0 σ0 (.inl none) τ 3 [(0, .ref (x0)), (1, .int (x1)), (2, .int (x2))] [] ρ) {x0 : Nat} {x1 : Int32} {x2 : Int32} {σ : tM} (hm : J_X5_freeRetired_76 b0 fu rc3 x0 x1 x2 σ = some (v, τ)) : tX p l e s m args below meth c 3 1 21 D aC b0 σ0 (.inl none) τ 76 [(0, .ref (x0)), (1, .int (x1)), (2, .int (x2))] [] σ := by
  unfold J_X5_freeRetired_76 at hm
  obtain ⟨y12, hy12⟩ : ∃ z : Int32, z = (x2) + Int32.ofInt 1 := ⟨_, rfl⟩
  replace hm := ltb_e hm hy12
  refine zx_iinc C [(2, .int (y12)), (0, .ref (x0)), (1, .int (x1))] dX5_freeRetired_76 2 rfl hy12.symm (by decide) rfl ?_
  refine zx_goto C 3 dX5_freeRetired_79 (by decide) ?_
  exact zx_lv [1, 2, 0] [(0, .ref (x0)), (1, .int (x1)), (2, .int (y12))] rfl (hrc3 _ _ _ _ hm)
set_option maxRecDepth 100000 in
set_option maxHeartbeats 1000000 in
theorem l_X5_freeRetired_3 {p : Program} {l : Launch} {e : Env} {s : State} {m : MethodId} {args : Array Value} {below : List Frame} {meth : Method} {c : Code} {D : va_G} {aC : Nat → ClassId} {b0 fu : Nat} {σ0 τ : tM} {v : Unit}  (C : tCx p l s m args meth c yX5_freeRetired.cls cX5_freeRetired 3 none D aC b0 σ0) (htab : ∀ x ∈ c.exceptionTable.toList, False) (hin : meth.name = yX5_freeRetired.name)  : ∀ (n : Nat) (x0 : Nat) (x1 : Int32) (x2 : Int32) (σ : tM), L_X5_freeRetired_3 b0 fu  n x0 x1 x2 σ = some (v, τ) → tX p l e s m args below meth c 3 1 21 D aC b0 σ0 (.inl none) τ 3 [(0, .ref (x0)), (1, .int (x1)), (2, .int (x2))] [] σ := by
  intro n
  induction n with
  | zero => intro x0 x1 x2 σ hm; unfold L_X5_freeRetired_3 at hm; cases hm
  | succ n ih =>
    intro x0 x1 x2 σ hm
    unfold L_X5_freeRetired_3 at hm
    obtain ⟨rc3, hrc⟩ : ∃ z, z = L_X5_freeRetired_3 b0 fu  n := ⟨_, rfl⟩
    replace hm := ltb_e hm hrc
    rw [← hrc] at ih
    have hrc3 := ih
    clear ih hrc
    refine zx_iload_n C dX5_freeRetired_3 2 rfl ?_
    refine zx_aload_n C dX5_freeRetired_4 0 rfl ?_
    obtain ⟨k1, i2, hm⟩ := ckO_e hm
    refine zx_get (j := 7) C tC_5 k1 i2 ⟨by decide, Or.inl W_1_104⟩ dX5_freeRetired_5 (.int (tI (σ) (x0) 7)) rfl ?_
    refine zx_icmp_ge C 82 dX5_freeRetired_8 (by decide) (fun c3 => ?_) (fun c3 => ?_)
    · replace hm := ip_e hm c3
      exact zx_lv [] [] rfl (j_X5_freeRetired_82 C htab hin    hm)
    · replace hm := in_e hm c3
      refine zx_aload_n C dX5_freeRetired_11 0 rfl ?_
      refine zx_get (j := 10) C tC_5 k1 i2 ⟨by decide, Or.inl W_1_110⟩ dX5_freeRetired_12 (.int (tI (σ) (x0) 10)) rfl ?_
      refine zx_if_le C 82 dX5_freeRetired_15 (by decide) (fun c4 => ?_) (fun c4 => ?_)
      · replace hm := ip_e hm c4
        exact zx_lv [] [] rfl (j_X5_freeRetired_82 C htab hin    hm)
      · replace hm := in_e hm c4
        refine zx_aload_n C dX5_freeRetired_18 0 rfl ?_
        obtain ⟨a5, h6, hm⟩ := osm_e hm
        refine zx_get (j := 1) C tC_5 k1 i2 ⟨by decide, Or.inl W_1_97⟩ dX5_freeRetired_19 (.ref a5) (rf_s h6) ?_
        refine zx_iload_n C dX5_freeRetired_22 2 rfl ?_
        obtain ⟨n9, k7, i8, hm⟩ := ckR_e hm
        obtain ⟨h10, hm⟩ := ckI_e hm
        refine zx_iald C k7 i8 h10 dX5_freeRetired_23 ?_
        refine zx_if_le C 76 dX5_freeRetired_24 (by decide) (fun c11 => ?_) (fun c11 => ?_)
        · replace hm := ip_e hm c11
          exact zx_lv [0, 1, 2] [(0, .ref (x0)), (1, .int (x1)), (2, .int (x2))] rfl (j_X5_freeRetired_76 C htab hin hrc3   hm)
        · replace hm := in_e hm c11
          refine zx_aload_n C dX5_freeRetired_27 0 rfl ?_
          obtain ⟨a13, h14, hm⟩ := osm_e hm
          refine zx_get (j := 1) C tC_5 k1 i2 ⟨by decide, Or.inl W_1_97⟩ dX5_freeRetired_28 (.ref a13) (rf_s h14) ?_
          refine zx_iload_n C dX5_freeRetired_31 2 rfl ?_
          obtain ⟨n17, k15, i16, hm⟩ := ckR_e hm
          obtain ⟨h18, hm⟩ := ckI_e hm
          refine zx_iald C k15 i16 h18 dX5_freeRetired_32 ?_
          refine zx_iload_n C dX5_freeRetired_33 1 rfl ?_
          refine zx_icmp_gt C 76 dX5_freeRetired_34 (by decide) (fun c19 => ?_) (fun c19 => ?_)
          · replace hm := ip_e hm c19
            exact zx_lv [0, 1, 2] [(0, .ref (x0)), (1, .int (x1)), (2, .int (x2))] rfl (j_X5_freeRetired_76 C htab hin hrc3   hm)
          · replace hm := in_e hm c19
            refine zx_aload_n C dX5_freeRetired_37 0 rfl ?_
            obtain ⟨a20, h21, hm⟩ := osm_e hm
            refine zx_get (j := 1) C tC_5 k1 i2 ⟨by decide, Or.inl W_1_97⟩ dX5_freeRetired_38 (.ref a20) (rf_s h21) ?_
            refine zx_iload_n C dX5_freeRetired_41 2 rfl ?_
            refine zx_iconst (v := 0) C dX5_freeRetired_42 (by decide) ?_
            obtain ⟨n24, k22, i23, hm⟩ := ckR_e hm
            obtain ⟨h25, hm⟩ := ckI_e hm
            refine zx_iast C k22 i23 h25 dX5_freeRetired_43 ?_
            refine zx_aload_n C dX5_freeRetired_44 0 rfl ?_
            refine zx_dup C dX5_freeRetired_45 rfl ?_
            refine zx_get (j := 10) C tC_5 k1 i2 ⟨by decide, Or.inl W_1_110⟩ dX5_freeRetired_46 (.int (tI (sI (σ) (a20) ((x2).toNatClampNeg) (0)) (x0) 10)) rfl ?_
            refine zx_iconst (v := 1) C dX5_freeRetired_49 (by decide) ?_
            refine zx_isub C dX5_freeRetired_50 ?_
            refine zx_put (j := 10) (ρ := sI (sI (σ) (a20) ((x2).toNatClampNeg) (0)) (x0) 10 ((tI (sI (σ) (a20) ((x2).toNatClampNeg) (0)) (x0) 10) - (1))) C tC_5 k1 i2 ⟨by decide, Or.inl W_1_110⟩ rfl rfl rfl (sI_ok (fun _ => rfl)) dX5_freeRetired_51 ?_
            refine zx_aload_n C dX5_freeRetired_54 0 rfl ?_
            refine zx_dup C dX5_freeRetired_55 rfl ?_
            refine zx_get (j := 9) C tC_5 k1 i2 ⟨by decide, Or.inl W_1_107⟩ dX5_freeRetired_56 (.int (tI (sI (sI (σ) (a20) ((x2).toNatClampNeg) (0)) (x0) 10 ((tI (sI (σ) (a20) ((x2).toNatClampNeg) (0)) (x0) 10) - (1))) (x0) 9)) rfl ?_
            refine zx_iconst (v := 1) C dX5_freeRetired_59 (by decide) ?_
            refine zx_iadd C dX5_freeRetired_60 ?_
            refine zx_put (j := 9) (ρ := sI (sI (sI (σ) (a20) ((x2).toNatClampNeg) (0)) (x0) 10 ((tI (sI (σ) (a20) ((x2).toNatClampNeg) (0)) (x0) 10) - (1))) (x0) 9 ((tI (sI (sI (σ) (a20) ((x2).toNatClampNeg) (0)) (x0) 10 ((tI (sI (σ) (a20) ((x2).toNatClampNeg) (0)) (x0) 10) - (1))) (x0) 9) + (1))) C tC_5 k1 i2 ⟨by decide, Or.inl W_1_107⟩ rfl rfl rfl (sI_ok (fun _ => rfl)) dX5_freeRetired_61 ?_
            refine zx_aload_n C dX5_freeRetired_64 0 rfl ?_
            refine zx_aload_n C dX5_freeRetired_65 0 rfl ?_
            refine zx_get (j := 14) C tC_5 k1 i2 ⟨by decide, Or.inl W_1_117⟩ dX5_freeRetired_66 (.int (tI (sI (sI (sI (σ) (a20) ((x2).toNatClampNeg) (0)) (x0) 10 ((tI (sI (σ) (a20) ((x2).toNatClampNeg) (0)) (x0) 10) - (1))) (x0) 9 ((tI (sI (sI (σ) (a20) ((x2).toNatClampNeg) (0)) (x0) 10 ((tI (sI (σ) (a20) ((x2).toNatClampNeg) (0)) (x0) 10) - (1))) (x0) 9) + (1))) (x0) 14)) rfl ?_
            refine zx_iload_n C dX5_freeRetired_69 2 rfl ?_
            refine zx_min C W_2_127 W_2_106 W_1_10 W_2_107 (by decide) (by decide) (Nat.le_of_ble_eq_true rfl) dX5_freeRetired_70 ?_
            refine zx_put (j := 14) (ρ := sI (sI (sI (sI (σ) (a20) ((x2).toNatClampNeg) (0)) (x0) 10 ((tI (sI (σ) (a20) ((x2).toNatClampNeg) (0)) (x0) 10) - (1))) (x0) 9 ((tI (sI (sI (σ) (a20) ((x2).toNatClampNeg) (0)) (x0) 10 ((tI (sI (σ) (a20) ((x2).toNatClampNeg) (0)) (x0) 10) - (1))) (x0) 9) + (1))) (x0) 14 ((if (x2) < (tI (sI (sI (sI (σ) (a20) ((x2).toNatClampNeg) (0)) (x0) 10 ((tI (sI (σ) (a20) ((x2).toNatClampNeg) (0)) (x0) 10) - (1))) (x0) 9 ((tI (sI (sI (σ) (a20) ((x2).toNatClampNeg) (0)) (x0) 10 ((tI (sI (σ) (a20) ((x2).toNatClampNeg) (0)) (x0) 10) - (1))) (x0) 9) + (1))) (x0) 14) then (x2) else (tI (sI (sI (sI (σ) (a20) ((x2).toNatClampNeg) (0)) (x0) 10 ((tI (sI (σ) (a20) ((x2).toNatClampNeg) (0)) (x0) 10) - (1))) (x0) 9 ((tI (sI (sI (σ) (a20) ((x2).toNatClampNeg) (0)) (x0) 10 ((tI (sI (σ) (a20) ((x2).toNatClampNeg) (0)) (x0) 10) - (1))) (x0) 9) + (1))) (x0) 14) : Int32))) C tC_5 k1 i2 ⟨by decide, Or.inl W_1_117⟩ rfl rfl rfl (sI_ok (fun _ => rfl)) dX5_freeRetired_73 ?_
            exact zx_lv [0, 1, 2] [(0, .ref (x0)), (1, .int (x1)), (2, .int (x2))] rfl (j_X5_freeRetired_76 C htab hin hrc3   hm)
set_option maxRecDepth 100000 in
set_option maxHeartbeats 1000000 in
theorem c_X5_freeRetired {l : Launch} {D : va_G} {aC : Nat → ClassId} {b0 fu : Nat} {a0 : Nat} {p0 : Int32} {σ τ : tM} {v : Unit} (hm : m_X5_freeRetired b0 fu a0 p0 σ = some (v, τ)) : tMt l D aC b0 yX5_freeRetired (Cond.code yX5_freeRetired cX5_freeRetired 3 none) 1 21 [.ref (a0), .int (p0)] σ (.inl none) τ := by
  unfold m_X5_freeRetired at hm
  obtain ⟨hg, hm⟩ := grw_e hm
  refine tMt_of (n := 0) rfl (Nat.le_of_ble_eq_true rfl) hg ?_
  intro p e s m below meth c C htab hin
  refine zx_lv [0, 1] [(0, .ref (a0)), (1, .int (p0))] rfl ?_
  refine zx_bipush (v := 34) C dX5_freeRetired_0 (by decide) ?_
  refine zx_istore_n C [(2, .int (34)), (0, .ref (a0)), (1, .int (p0))] dX5_freeRetired_2 rfl (by decide) rfl ?_
  exact zx_lv [1, 2, 0] [(0, .ref (a0)), (1, .int (p0)), (2, .int (34))] rfl (l_X5_freeRetired_3 C htab hin  _ _ _ _ _ hm)
abbrev cX5_groupSize : ByteArray := prog_7_method_29_code
def yX5_groupSize : MethodName := ⟨"SyncTree$Space", "groupSize", "()I"⟩
theorem Y_X5_groupSize : tY yX5_groupSize cX5_groupSize 1 (some .int) 0 := ⟨W_3_95, W_1_3, ⟨by decide +kernel, by decide +kernel⟩, by decide +kernel⟩
theorem dX5_groupSize_0 : decode cX5_groupSize 0 = .ok (.aload_n 0, 1) := by decide +kernel
theorem dX5_groupSize_1 : decode cX5_groupSize 1 = .ok (.getfield 78, 3) := by decide +kernel
theorem dX5_groupSize_4 : decode cX5_groupSize 4 = .ok (.aload_n 0, 1) := by decide +kernel
theorem dX5_groupSize_5 : decode cX5_groupSize 5 = .ok (.getfield 78, 3) := by decide +kernel
theorem dX5_groupSize_8 : decode cX5_groupSize 8 = .ok (.aload_n 0, 1) := by decide +kernel
theorem dX5_groupSize_9 : decode cX5_groupSize 9 = .ok (.getfield 81, 3) := by decide +kernel
theorem dX5_groupSize_12 : decode cX5_groupSize 12 = .ok (.iadd, 1) := by decide +kernel
theorem dX5_groupSize_13 : decode cX5_groupSize 13 = .ok (.bipush 120, 2) := by decide +kernel
theorem dX5_groupSize_15 : decode cX5_groupSize 15 = .ok (.iadd, 1) := by decide +kernel
theorem dX5_groupSize_16 : decode cX5_groupSize 16 = .ok (.iconst 1, 1) := by decide +kernel
theorem dX5_groupSize_17 : decode cX5_groupSize 17 = .ok (.isub, 1) := by decide +kernel
theorem dX5_groupSize_18 : decode cX5_groupSize 18 = .ok (.bipush 120, 2) := by decide +kernel
theorem dX5_groupSize_20 : decode cX5_groupSize 20 = .ok (.idiv, 1) := by decide +kernel
theorem dX5_groupSize_21 : decode cX5_groupSize 21 = .ok (.iadd, 1) := by decide +kernel
theorem dX5_groupSize_22 : decode cX5_groupSize 22 = .ok (.ireturn, 1) := by decide +kernel
set_option maxRecDepth 100000 in
set_option maxHeartbeats 1000000 in
theorem c_X5_groupSize {l : Launch} {D : va_G} {aC : Nat → ClassId} {b0 fu : Nat} {a0 : Nat} {σ τ : tM} {v : Int32} (hm : m_X5_groupSize b0 fu a0 σ = some (v, τ)) : tMt l D aC b0 yX5_groupSize (Cond.code yX5_groupSize cX5_groupSize 1 (some .int)) 0 0 [.ref (a0)] σ (.inl (some (.int v))) τ := by
  unfold m_X5_groupSize at hm
  obtain ⟨hg, hm⟩ := grw_e hm
  refine tMt_of (n := 0) rfl (Nat.le_of_ble_eq_true rfl) hg ?_
  intro p e s m below meth c C htab hin
  refine zx_lv [0] [(0, .ref (a0))] rfl ?_
  refine zx_aload_n C dX5_groupSize_0 0 rfl ?_
  obtain ⟨k1, i2, hm⟩ := ckO_e hm
  refine zx_get (j := 11) C tC_5 k1 i2 ⟨by decide, Or.inl W_1_111⟩ dX5_groupSize_1 (.int (tI (σ) (a0) 11)) rfl ?_
  refine zx_aload_n C dX5_groupSize_4 0 rfl ?_
  refine zx_get (j := 11) C tC_5 k1 i2 ⟨by decide, Or.inl W_1_111⟩ dX5_groupSize_5 (.int (tI (σ) (a0) 11)) rfl ?_
  refine zx_aload_n C dX5_groupSize_8 0 rfl ?_
  refine zx_get (j := 12) C tC_5 k1 i2 ⟨by decide, Or.inl W_1_113⟩ dX5_groupSize_9 (.int (tI (σ) (a0) 12)) rfl ?_
  refine zx_iadd C dX5_groupSize_12 ?_
  refine zx_bipush (v := 120) C dX5_groupSize_13 (by decide) ?_
  refine zx_iadd C dX5_groupSize_15 ?_
  refine zx_iconst (v := 1) C dX5_groupSize_16 (by decide) ?_
  refine zx_isub C dX5_groupSize_17 ?_
  refine zx_bipush (v := 120) C dX5_groupSize_18 (by decide) ?_
  refine zx_idiv C dX5_groupSize_20 (by decide) ?_
  refine zx_iadd C dX5_groupSize_21 ?_
  obtain ⟨rfl, rfl⟩ := ret_e hm
  exact zx_iret C rfl rfl rfl dX5_groupSize_22
abbrev cX5_figure : ByteArray := prog_7_method_30_code
def yX5_figure : MethodName := ⟨"SyncTree$Space", "figure", "(I)I"⟩
theorem Y_X5_figure : tY yX5_figure cX5_figure 2 (some .int) 1 := ⟨W_3_91, W_1_3, ⟨by decide +kernel, by decide +kernel⟩, by decide +kernel⟩
theorem dX5_figure_0 : decode cX5_figure 0 = .ok (.iload_n 1, 1) := by decide +kernel
theorem dX5_figure_1 : decode cX5_figure 1 = .ok (.tableswitch 64 5 10 #[39, 44, 49, 64, 54, 59], 39) := by decide +kernel
theorem dX5_figure_40 : decode cX5_figure 40 = .ok (.aload_n 0, 1) := by decide +kernel
theorem dX5_figure_41 : decode cX5_figure 41 = .ok (.getfield 84, 3) := by decide +kernel
theorem dX5_figure_44 : decode cX5_figure 44 = .ok (.ireturn, 1) := by decide +kernel
theorem dX5_figure_45 : decode cX5_figure 45 = .ok (.aload_n 0, 1) := by decide +kernel
theorem dX5_figure_46 : decode cX5_figure 46 = .ok (.getfield 87, 3) := by decide +kernel
theorem dX5_figure_49 : decode cX5_figure 49 = .ok (.ireturn, 1) := by decide +kernel
theorem dX5_figure_50 : decode cX5_figure 50 = .ok (.aload_n 0, 1) := by decide +kernel
theorem dX5_figure_51 : decode cX5_figure 51 = .ok (.getfield 65, 3) := by decide +kernel
theorem dX5_figure_54 : decode cX5_figure 54 = .ok (.ireturn, 1) := by decide +kernel
theorem dX5_figure_55 : decode cX5_figure 55 = .ok (.aload_n 0, 1) := by decide +kernel
theorem dX5_figure_56 : decode cX5_figure 56 = .ok (.invokevirtual 132, 3) := by decide +kernel
theorem dX5_figure_59 : decode cX5_figure 59 = .ok (.ireturn, 1) := by decide +kernel
theorem dX5_figure_60 : decode cX5_figure 60 = .ok (.aload_n 0, 1) := by decide +kernel
theorem dX5_figure_61 : decode cX5_figure 61 = .ok (.getfield 78, 3) := by decide +kernel
theorem dX5_figure_64 : decode cX5_figure 64 = .ok (.ireturn, 1) := by decide +kernel
theorem dX5_figure_65 : decode cX5_figure 65 = .ok (.aload_n 0, 1) := by decide +kernel
theorem dX5_figure_66 : decode cX5_figure 66 = .ok (.getfield 81, 3) := by decide +kernel
theorem dX5_figure_69 : decode cX5_figure 69 = .ok (.ireturn, 1) := by decide +kernel
set_option maxRecDepth 100000 in
set_option maxHeartbeats 1000000 in
theorem j_X5_figure_65 {p : Program} {l : Launch} {e : Env} {s : State} {m : MethodId} {args : Array Value} {below : List Frame} {meth : Method} {c : Code} {D : va_G} {aC : Nat → ClassId} {b0 fu : Nat} {σ0 τ : tM} {v : Int32}  (C : tCx p l s m args meth c yX5_figure.cls cX5_figure 2 (some .int) D aC b0 σ0) (htab : ∀ x ∈ c.exceptionTable.toList, False) (hin : meth.name = yX5_figure.name)  {x0 : Nat} {σ : tM} (hm : J_X5_figure_65 b0 fu  x0 σ = some (v, τ)) : tX p l e s m args below meth c 2 1 20 D aC b0 σ0 (.inl (some (.int v))) τ 65 [(0, .ref (x0))] [] σ := by
  unfold J_X5_figure_65 at hm
  refine zx_aload_n C dX5_figure_65 0 rfl ?_
  obtain ⟨k7, i8, hm⟩ := ckO_e hm
  refine zx_get (j := 12) C tC_5 k7 i8 ⟨by decide, Or.inl W_1_113⟩ dX5_figure_66 (.int (tI (σ) (x0) 12)) rfl ?_
  obtain ⟨rfl, rfl⟩ := ret_e hm
  exact zx_iret C rfl rfl rfl dX5_figure_69
set_option maxRecDepth 100000 in
set_option maxHeartbeats 1000000 in
theorem c_X5_figure {l : Launch} {D : va_G} {aC : Nat → ClassId} {b0 fu : Nat} {a0 : Nat} {p0 : Int32} {σ τ : tM} {v : Int32} (hm : m_X5_figure b0 fu a0 p0 σ = some (v, τ)) : tMt l D aC b0 yX5_figure (Cond.code yX5_figure cX5_figure 2 (some .int)) 1 20 [.ref (a0), .int (p0)] σ (.inl (some (.int v))) τ := by
  unfold m_X5_figure at hm
  obtain ⟨hg, hm⟩ := grw_e hm
  refine tMt_of (n := 0) rfl (Nat.le_of_ble_eq_true rfl) hg ?_
  intro p e s m below meth c C htab hin
  refine zx_lv [0, 1] [(0, .ref (a0)), (1, .int (p0))] rfl ?_
  refine zx_iload_n C dX5_figure_0 1 rfl ?_
  rcases Classical.em ((p0) = (5)) with c1_5 | c1_5
  · replace hm := ip_e hm c1_5
    refine zx_tabIn (off := 39) C 40 dX5_figure_1 (by rw [c1_5]; decide) (by rw [c1_5]; decide) (by rw [c1_5]; decide) (by decide) ?_
    refine zx_aload_n C dX5_figure_40 0 rfl ?_
    obtain ⟨k1, i2, hm⟩ := ckO_e hm
    refine zx_get (j := 9) C tC_5 k1 i2 ⟨by decide, Or.inl W_1_107⟩ dX5_figure_41 (.int (tI (σ) (a0) 9)) rfl ?_
    obtain ⟨rfl, rfl⟩ := ret_e hm
    exact zx_iret C rfl rfl rfl dX5_figure_44
  · replace hm := in_e hm c1_5
    rcases Classical.em ((p0) = (6)) with c1_6 | c1_6
    · replace hm := ip_e hm c1_6
      refine zx_tabIn (off := 44) C 45 dX5_figure_1 (by rw [c1_6]; decide) (by rw [c1_6]; decide) (by rw [c1_6]; decide) (by decide) ?_
      refine zx_aload_n C dX5_figure_45 0 rfl ?_
      obtain ⟨k3, i4, hm⟩ := ckO_e hm
      refine zx_get (j := 10) C tC_5 k3 i4 ⟨by decide, Or.inl W_1_110⟩ dX5_figure_46 (.int (tI (σ) (a0) 10)) rfl ?_
      obtain ⟨rfl, rfl⟩ := ret_e hm
      exact zx_iret C rfl rfl rfl dX5_figure_49
    · replace hm := in_e hm c1_6
      rcases Classical.em ((p0) = (7)) with c1_7 | c1_7
      · replace hm := ip_e hm c1_7
        refine zx_tabIn (off := 49) C 50 dX5_figure_1 (by rw [c1_7]; decide) (by rw [c1_7]; decide) (by rw [c1_7]; decide) (by decide) ?_
        refine zx_aload_n C dX5_figure_50 0 rfl ?_
        obtain ⟨k5, i6, hm⟩ := ckO_e hm
        refine zx_get (j := 13) C tC_5 k5 i6 ⟨by decide, Or.inl W_1_115⟩ dX5_figure_51 (.int (tI (σ) (a0) 13)) rfl ?_
        obtain ⟨rfl, rfl⟩ := ret_e hm
        exact zx_iret C rfl rfl rfl dX5_figure_54
      · replace hm := in_e hm c1_7
        rcases Classical.em ((p0) = (8)) with c1_8 | c1_8
        · replace hm := ip_e hm c1_8
          refine zx_tabIn (off := 64) C 65 dX5_figure_1 (by rw [c1_8]; decide) (by rw [c1_8]; decide) (by rw [c1_8]; decide) (by decide) ?_
          exact zx_lv [0] [(0, .ref (a0))] rfl (j_X5_figure_65 C htab hin    hm)
        · replace hm := in_e hm c1_8
          rcases Classical.em ((p0) = (9)) with c1_9 | c1_9
          · replace hm := ip_e hm c1_9
            refine zx_tabIn (off := 54) C 55 dX5_figure_1 (by rw [c1_9]; decide) (by rw [c1_9]; decide) (by rw [c1_9]; decide) (by decide) ?_
            refine zx_aload_n C dX5_figure_55 0 rfl ?_
            obtain ⟨k9, i10, hm⟩ := ckO_e hm
            obtain ⟨v11, ρ12, h13, hm⟩ := cll_e hm
            refine zx_callV (σ := σ) C [] tC_5 k9 i10 Y_X5_groupSize W_3_92 W_3_93 W_3_94 (c_X5_groupSize h13) (by decide) (by decide) rfl (Nat.le_of_ble_eq_true rfl) dX5_figure_56 rfl ?_
            obtain ⟨rfl, rfl⟩ := ret_e hm
            exact zx_iret C rfl rfl rfl dX5_figure_59
          · replace hm := in_e hm c1_9
            rcases Classical.em ((p0) = (10)) with c1_10 | c1_10
            · replace hm := ip_e hm c1_10
              refine zx_tabIn (off := 59) C 60 dX5_figure_1 (by rw [c1_10]; decide) (by rw [c1_10]; decide) (by rw [c1_10]; decide) (by decide) ?_
              refine zx_aload_n C dX5_figure_60 0 rfl ?_
              obtain ⟨k14, i15, hm⟩ := ckO_e hm
              refine zx_get (j := 11) C tC_5 k14 i15 ⟨by decide, Or.inl W_1_111⟩ dX5_figure_61 (.int (tI (σ) (a0) 11)) rfl ?_
              obtain ⟨rfl, rfl⟩ := ret_e hm
              exact zx_iret C rfl rfl rfl dX5_figure_64
            · replace hm := in_e hm c1_10
              have g1_5 : (p0).toInt ≠ 5 := fun e9 => c1_5 (Int32.toInt_inj.mp (e9.trans (by decide)))
              have g1_6 : (p0).toInt ≠ 6 := fun e9 => c1_6 (Int32.toInt_inj.mp (e9.trans (by decide)))
              have g1_7 : (p0).toInt ≠ 7 := fun e9 => c1_7 (Int32.toInt_inj.mp (e9.trans (by decide)))
              have g1_8 : (p0).toInt ≠ 8 := fun e9 => c1_8 (Int32.toInt_inj.mp (e9.trans (by decide)))
              have g1_9 : (p0).toInt ≠ 9 := fun e9 => c1_9 (Int32.toInt_inj.mp (e9.trans (by decide)))
              have g1_10 : (p0).toInt ≠ 10 := fun e9 => c1_10 (Int32.toInt_inj.mp (e9.trans (by decide)))
              refine zx_tabOut C 65 dX5_figure_1 (by omega) (by decide) ?_
              exact zx_lv [0] [(0, .ref (a0))] rfl (j_X5_figure_65 C htab hin    hm)
abbrev cX6_init : ByteArray := prog_8_method_1_code
def yX6_init : MethodName := ⟨"SyncTree$Tape", "<init>", "()V"⟩
theorem Y_X6_init : tY yX6_init cX6_init 1 none 0 := ⟨W_2_40, W_1_8, ⟨by decide +kernel, by decide +kernel⟩, by decide +kernel⟩
theorem dX6_init_0 : decode cX6_init 0 = .ok (.aload_n 0, 1) := by decide +kernel
theorem dX6_init_1 : decode cX6_init 1 = .ok (.invokespecial 3, 3) := by decide +kernel
theorem dX6_init_4 : decode cX6_init 4 = .ok (.aload_n 0, 1) := by decide +kernel
theorem dX6_init_5 : decode cX6_init 5 = .ok (.sipush 4000, 3) := by decide +kernel
theorem dX6_init_8 : decode cX6_init 8 = .ok (.newarray .byte, 2) := by decide +kernel
theorem dX6_init_10 : decode cX6_init 10 = .ok (.putfield 11, 3) := by decide +kernel
theorem dX6_init_13 : decode cX6_init 13 = .ok (.return_, 1) := by decide +kernel
set_option maxRecDepth 100000 in
set_option maxHeartbeats 1000000 in
theorem c_X6_init {l : Launch} {D : va_G} {aC : Nat → ClassId} {b0 fu : Nat} {a0 : Nat} {σ τ : tM} {v : Unit} (hm : m_X6_init b0 fu a0 σ = some (v, τ)) : tMt l D aC b0 yX6_init (Cond.code yX6_init cX6_init 1 none) 1 20 [.ref (a0)] σ (.inl none) τ := by
  unfold m_X6_init at hm
  obtain ⟨hg, hm⟩ := grw_e hm
  refine tMt_of (n := 0) rfl (Nat.le_of_ble_eq_true rfl) hg ?_
  intro p e s m below meth c C htab hin
  refine zx_lv [0] [(0, .ref (a0))] rfl ?_
  refine zx_aload_n C dX6_init_0 0 rfl ?_
  refine zx_obj C W_2_41 W_1_26 W_1_27 (by decide) (by decide) (Nat.le_of_ble_eq_true rfl) dX6_init_1 ?_
  refine zx_aload_n C dX6_init_4 0 rfl ?_
  refine zx_sipush (v := 4000) C dX6_init_5 (by decide) ?_
  refine zx_newB C W_1_156 (by decide) (by decide) dX6_init_8 ?_
  refine zx_mem (fun ρ1 hρ1 => ?_)
  replace hm := ltb_e hm hρ1
  have k2 : tk ρ1 (b0 + tn σ) = .inr (1, ((4000 : Int32)).toNatClampNeg) := by rw [hρ1]; exact sN_k _ _ _ _
  have i3 : tIn b0 ρ1 (b0 + tn σ) := by rw [hρ1]; exact sN_i _ _ _ _
  obtain ⟨k4, i5, hm⟩ := ckO_e hm
  refine zx_putF (j := 0) (ρ := sA (ρ1) (a0) 0 (some (b0 + tn σ))) C hin tC_6 k4 i5 (by decide) W_2_42 rfl rfl rfl rfl (sA_ok (fun _ => rfl)) dX6_init_10 ?_
  obtain ⟨rfl, rfl⟩ := ret_e hm
  exact zx_vret C rfl rfl rfl dX6_init_13
abbrev cX6_hasSpace : ByteArray := prog_8_method_2_code
def yX6_hasSpace : MethodName := ⟨"SyncTree$Tape", "hasSpace", "()Z"⟩
theorem Y_X6_hasSpace : tY yX6_hasSpace cX6_hasSpace 1 (some .boolean) 0 := ⟨W_3_15, W_1_8, ⟨by decide +kernel, by decide +kernel⟩, by decide +kernel⟩
theorem dX6_hasSpace_0 : decode cX6_hasSpace 0 = .ok (.aload_n 0, 1) := by decide +kernel
theorem dX6_hasSpace_1 : decode cX6_hasSpace 1 = .ok (.getfield 15, 3) := by decide +kernel
theorem dX6_hasSpace_4 : decode cX6_hasSpace 4 = .ok (.bipush 20, 2) := by decide +kernel
theorem dX6_hasSpace_6 : decode cX6_hasSpace 6 = .ok (.iadd, 1) := by decide +kernel
theorem dX6_hasSpace_7 : decode cX6_hasSpace 7 = .ok (.sipush 4000, 3) := by decide +kernel
theorem dX6_hasSpace_10 : decode cX6_hasSpace 10 = .ok (.if_icmp .gt 7, 3) := by decide +kernel
theorem dX6_hasSpace_13 : decode cX6_hasSpace 13 = .ok (.iconst 1, 1) := by decide +kernel
theorem dX6_hasSpace_14 : decode cX6_hasSpace 14 = .ok (.goto 4, 3) := by decide +kernel
theorem dX6_hasSpace_17 : decode cX6_hasSpace 17 = .ok (.iconst 0, 1) := by decide +kernel
theorem dX6_hasSpace_18 : decode cX6_hasSpace 18 = .ok (.ireturn, 1) := by decide +kernel
set_option maxRecDepth 100000 in
set_option maxHeartbeats 1000000 in
theorem j_X6_hasSpace_18 {p : Program} {l : Launch} {e : Env} {s : State} {m : MethodId} {args : Array Value} {below : List Frame} {meth : Method} {c : Code} {D : va_G} {aC : Nat → ClassId} {b0 fu : Nat} {σ0 τ : tM} {v : Int32}  (C : tCx p l s m args meth c yX6_hasSpace.cls cX6_hasSpace 1 (some .boolean) D aC b0 σ0) (htab : ∀ x ∈ c.exceptionTable.toList, False) (hin : meth.name = yX6_hasSpace.name)  {s0 : Int32} {σ : tM} (hm : J_X6_hasSpace_18 b0 fu  s0 σ = some (v, τ)) : tX p l e s m args below meth c 1 0 0 D aC b0 σ0 (.inl (some (.int v))) τ 18 [] [.int (s0)] σ := by
  unfold J_X6_hasSpace_18 at hm
  obtain ⟨h4, hm⟩ := ckZ_e hm
  obtain ⟨rfl, rfl⟩ := ret_e hm
  exact zx_zret C rfl h4 rfl rfl dX6_hasSpace_18
set_option maxRecDepth 100000 in
set_option maxHeartbeats 1000000 in
theorem c_X6_hasSpace {l : Launch} {D : va_G} {aC : Nat → ClassId} {b0 fu : Nat} {a0 : Nat} {σ τ : tM} {v : Int32} (hm : m_X6_hasSpace b0 fu a0 σ = some (v, τ)) : tMt l D aC b0 yX6_hasSpace (Cond.code yX6_hasSpace cX6_hasSpace 1 (some .boolean)) 0 0 [.ref (a0)] σ (.inl (some (.int v))) τ := by
  unfold m_X6_hasSpace at hm
  obtain ⟨hg, hm⟩ := grw_e hm
  refine tMt_of (n := 0) rfl (Nat.le_of_ble_eq_true rfl) hg ?_
  intro p e s m below meth c C htab hin
  refine zx_lv [0] [(0, .ref (a0))] rfl ?_
  refine zx_aload_n C dX6_hasSpace_0 0 rfl ?_
  obtain ⟨k1, i2, hm⟩ := ckO_e hm
  refine zx_get (j := 1) C tC_6 k1 i2 ⟨by decide, Or.inl W_2_43⟩ dX6_hasSpace_1 (.int (tI (σ) (a0) 1)) rfl ?_
  refine zx_bipush (v := 20) C dX6_hasSpace_4 (by decide) ?_
  refine zx_iadd C dX6_hasSpace_6 ?_
  refine zx_sipush (v := 4000) C dX6_hasSpace_7 (by decide) ?_
  refine zx_icmp_gt C 17 dX6_hasSpace_10 (by decide) (fun c3 => ?_) (fun c3 => ?_)
  · replace hm := ip_e hm c3
    refine zx_iconst (v := 0) C dX6_hasSpace_17 (by decide) ?_
    exact zx_lv [] [] rfl (j_X6_hasSpace_18 C htab hin    hm)
  · replace hm := in_e hm c3
    refine zx_iconst (v := 1) C dX6_hasSpace_13 (by decide) ?_
    refine zx_goto C 18 dX6_hasSpace_14 (by decide) ?_
    exact zx_lv [] [] rfl (j_X6_hasSpace_18 C htab hin    hm)
abbrev cX6_append : ByteArray := prog_8_method_3_code
def yX6_append : MethodName := ⟨"SyncTree$Tape", "append", "(I)V"⟩
theorem Y_X6_append : tY yX6_append cX6_append 3 none 1 := ⟨W_3_19, W_1_8, ⟨by decide +kernel, by decide +kernel⟩, by decide +kernel⟩
theorem dX6_append_0 : decode cX6_append 0 = .ok (.bipush 24, 2) := by decide +kernel
theorem dX6_append_2 : decode cX6_append 2 = .ok (.istore_n 2, 1) := by decide +kernel
theorem dX6_append_3 : decode cX6_append 3 = .ok (.iload_n 2, 1) := by decide +kernel
theorem dX6_append_4 : decode cX6_append 4 = .ok (.ifCond .lt 42, 3) := by decide +kernel
theorem dX6_append_7 : decode cX6_append 7 = .ok (.aload_n 0, 1) := by decide +kernel
theorem dX6_append_8 : decode cX6_append 8 = .ok (.getfield 15, 3) := by decide +kernel
theorem dX6_append_11 : decode cX6_append 11 = .ok (.sipush 4000, 3) := by decide +kernel
theorem dX6_append_14 : decode cX6_append 14 = .ok (.if_icmp .ge 32, 3) := by decide +kernel
theorem dX6_append_17 : decode cX6_append 17 = .ok (.aload_n 0, 1) := by decide +kernel
theorem dX6_append_18 : decode cX6_append 18 = .ok (.getfield 11, 3) := by decide +kernel
theorem dX6_append_21 : decode cX6_append 21 = .ok (.aload_n 0, 1) := by decide +kernel
theorem dX6_append_22 : decode cX6_append 22 = .ok (.getfield 15, 3) := by decide +kernel
theorem dX6_append_25 : decode cX6_append 25 = .ok (.iload_n 1, 1) := by decide +kernel
theorem dX6_append_26 : decode cX6_append 26 = .ok (.iload_n 2, 1) := by decide +kernel
theorem dX6_append_27 : decode cX6_append 27 = .ok (.iushr, 1) := by decide +kernel
theorem dX6_append_28 : decode cX6_append 28 = .ok (.i2b, 1) := by decide +kernel
theorem dX6_append_29 : decode cX6_append 29 = .ok (.bastore, 1) := by decide +kernel
theorem dX6_append_30 : decode cX6_append 30 = .ok (.aload_n 0, 1) := by decide +kernel
theorem dX6_append_31 : decode cX6_append 31 = .ok (.dup, 1) := by decide +kernel
theorem dX6_append_32 : decode cX6_append 32 = .ok (.getfield 15, 3) := by decide +kernel
theorem dX6_append_35 : decode cX6_append 35 = .ok (.iconst 1, 1) := by decide +kernel
theorem dX6_append_36 : decode cX6_append 36 = .ok (.iadd, 1) := by decide +kernel
theorem dX6_append_37 : decode cX6_append 37 = .ok (.putfield 15, 3) := by decide +kernel
theorem dX6_append_40 : decode cX6_append 40 = .ok (.iinc 2 (-8), 3) := by decide +kernel
theorem dX6_append_43 : decode cX6_append 43 = .ok (.goto (-40), 3) := by decide +kernel
theorem dX6_append_46 : decode cX6_append 46 = .ok (.return_, 1) := by decide +kernel
set_option maxRecDepth 100000 in
set_option maxHeartbeats 1000000 in
theorem j_X6_append_46 {p : Program} {l : Launch} {e : Env} {s : State} {m : MethodId} {args : Array Value} {below : List Frame} {meth : Method} {c : Code} {D : va_G} {aC : Nat → ClassId} {b0 fu : Nat} {σ0 τ : tM} {v : Unit}  (C : tCx p l s m args meth c yX6_append.cls cX6_append 3 none D aC b0 σ0) (htab : ∀ x ∈ c.exceptionTable.toList, False) (hin : meth.name = yX6_append.name)   {σ : tM} (hm : J_X6_append_46 b0 fu   σ = some (v, τ)) : tX p l e s m args below meth c 3 0 0 D aC b0 σ0 (.inl none) τ 46 [] [] σ := by
  unfold J_X6_append_46 at hm
  obtain ⟨rfl, rfl⟩ := ret_e hm
  exact zx_vret C rfl rfl rfl dX6_append_46
set_option maxRecDepth 100000 in
set_option maxHeartbeats 1000000 in
theorem l_X6_append_3 {p : Program} {l : Launch} {e : Env} {s : State} {m : MethodId} {args : Array Value} {below : List Frame} {meth : Method} {c : Code} {D : va_G} {aC : Nat → ClassId} {b0 fu : Nat} {σ0 τ : tM} {v : Unit}  (C : tCx p l s m args meth c yX6_append.cls cX6_append 3 none D aC b0 σ0) (htab : ∀ x ∈ c.exceptionTable.toList, False) (hin : meth.name = yX6_append.name)  : ∀ (n : Nat) (x0 : Nat) (x1 : Int32) (x2 : Int32) (σ : tM), L_X6_append_3 b0 fu  n x0 x1 x2 σ = some (v, τ) → tX p l e s m args below meth c 3 0 0 D aC b0 σ0 (.inl none) τ 3 [(0, .ref (x0)), (1, .int (x1)), (2, .int (x2))] [] σ := by
  intro n
  induction n with
  | zero => intro x0 x1 x2 σ hm; unfold L_X6_append_3 at hm; cases hm
  | succ n ih =>
    intro x0 x1 x2 σ hm
    unfold L_X6_append_3 at hm
    obtain ⟨rc3, hrc⟩ : ∃ z, z = L_X6_append_3 b0 fu  n := ⟨_, rfl⟩
    replace hm := ltb_e hm hrc
    rw [← hrc] at ih
    have hrc3 := ih
    clear ih hrc
    refine zx_iload_n C dX6_append_3 2 rfl ?_
    refine zx_if_lt C 46 dX6_append_4 (by decide) (fun c1 => ?_) (fun c1 => ?_)
    · replace hm := ip_e hm c1
      exact zx_lv [] [] rfl (j_X6_append_46 C htab hin    hm)
    · replace hm := in_e hm c1
      refine zx_aload_n C dX6_append_7 0 rfl ?_
      obtain ⟨k2, i3, hm⟩ := ckO_e hm
      refine zx_get (j := 1) C tC_6 k2 i3 ⟨by decide, Or.inl W_2_43⟩ dX6_append_8 (.int (tI (σ) (x0) 1)) rfl ?_
      refine zx_sipush (v := 4000) C dX6_append_11 (by decide) ?_
      refine zx_icmp_ge C 46 dX6_append_14 (by decide) (fun c4 => ?_) (fun c4 => ?_)
      · replace hm := ip_e hm c4
        exact zx_lv [] [] rfl (j_X6_append_46 C htab hin    hm)
      · replace hm := in_e hm c4
        refine zx_aload_n C dX6_append_17 0 rfl ?_
        obtain ⟨a5, h6, hm⟩ := osm_e hm
        refine zx_get (j := 0) C tC_6 k2 i3 ⟨by decide, Or.inl W_2_42⟩ dX6_append_18 (.ref a5) (rf_s h6) ?_
        refine zx_aload_n C dX6_append_21 0 rfl ?_
        refine zx_get (j := 1) C tC_6 k2 i3 ⟨by decide, Or.inl W_2_43⟩ dX6_append_22 (.int (tI (σ) (x0) 1)) rfl ?_
        refine zx_iload_n C dX6_append_25 1 rfl ?_
        refine zx_iload_n C dX6_append_26 2 rfl ?_
        refine zx_iushr C dX6_append_27 ?_
        refine zx_i2b C dX6_append_28 ?_
        obtain ⟨n9, k7, i8, hm⟩ := ckR_e hm
        obtain ⟨h10, hm⟩ := ckI_e hm
        refine zx_bast C k7 i8 h10 dX6_append_29 ?_
        refine zx_aload_n C dX6_append_30 0 rfl ?_
        refine zx_dup C dX6_append_31 rfl ?_
        refine zx_get (j := 1) C tC_6 k2 i3 ⟨by decide, Or.inl W_2_43⟩ dX6_append_32 (.int (tI (sI (σ) (a5) ((tI (σ) (x0) 1).toNatClampNeg) (vp_nar .byte ((((x1).toUInt32 >>> ((x2).toUInt32 &&& Int32.toUInt32 31)).toInt32).toInt8.toInt32))) (x0) 1)) rfl ?_
        refine zx_iconst (v := 1) C dX6_append_35 (by decide) ?_
        refine zx_iadd C dX6_append_36 ?_
        refine zx_put (j := 1) (ρ := sI (sI (σ) (a5) ((tI (σ) (x0) 1).toNatClampNeg) (vp_nar .byte ((((x1).toUInt32 >>> ((x2).toUInt32 &&& Int32.toUInt32 31)).toInt32).toInt8.toInt32))) (x0) 1 ((tI (sI (σ) (a5) ((tI (σ) (x0) 1).toNatClampNeg) (vp_nar .byte ((((x1).toUInt32 >>> ((x2).toUInt32 &&& Int32.toUInt32 31)).toInt32).toInt8.toInt32))) (x0) 1) + (1))) C tC_6 k2 i3 ⟨by decide, Or.inl W_2_43⟩ rfl rfl rfl (sI_ok (fun _ => rfl)) dX6_append_37 ?_
        refine zx_mem (fun ρ11 hρ11 => ?_)
        replace hm := ltb_e hm hρ11
        have k12 : tk ρ11 (x0) = .inl 6 := by rw [hρ11]; exact k2
        have i13 : tIn b0 ρ11 (x0) := by rw [hρ11]; exact i3
        have k14 : tk ρ11 (a5) = .inr (1, n9) := by rw [hρ11]; exact k7
        have i15 : tIn b0 ρ11 (a5) := by rw [hρ11]; exact i8
        obtain ⟨y16, hy16⟩ : ∃ z : Int32, z = (x2) + Int32.ofInt (-8) := ⟨_, rfl⟩
        replace hm := ltb_e hm hy16
        refine zx_iinc C [(2, .int (y16)), (0, .ref (x0)), (1, .int (x1))] dX6_append_40 2 rfl hy16.symm (by decide) rfl ?_
        refine zx_goto C 3 dX6_append_43 (by decide) ?_
        exact zx_lv [1, 2, 0] [(0, .ref (x0)), (1, .int (x1)), (2, .int (y16))] rfl (hrc3 _ _ _ _ hm)
set_option maxRecDepth 100000 in
set_option maxHeartbeats 1000000 in
theorem c_X6_append {l : Launch} {D : va_G} {aC : Nat → ClassId} {b0 fu : Nat} {a0 : Nat} {p0 : Int32} {σ τ : tM} {v : Unit} (hm : m_X6_append b0 fu a0 p0 σ = some (v, τ)) : tMt l D aC b0 yX6_append (Cond.code yX6_append cX6_append 3 none) 0 0 [.ref (a0), .int (p0)] σ (.inl none) τ := by
  unfold m_X6_append at hm
  obtain ⟨hg, hm⟩ := grw_e hm
  refine tMt_of (n := 0) rfl (Nat.le_of_ble_eq_true rfl) hg ?_
  intro p e s m below meth c C htab hin
  refine zx_lv [0, 1] [(0, .ref (a0)), (1, .int (p0))] rfl ?_
  refine zx_bipush (v := 24) C dX6_append_0 (by decide) ?_
  refine zx_istore_n C [(2, .int (24)), (0, .ref (a0)), (1, .int (p0))] dX6_append_2 rfl (by decide) rfl ?_
  exact zx_lv [1, 2, 0] [(0, .ref (a0)), (1, .int (p0)), (2, .int (24))] rfl (l_X6_append_3 C htab hin  _ _ _ _ _ hm)
abbrev cX6_useUp : ByteArray := prog_8_method_4_code
def yX6_useUp : MethodName := ⟨"SyncTree$Tape", "useUp", "()V"⟩
theorem Y_X6_useUp : tY yX6_useUp cX6_useUp 1 none 0 := ⟨W_2_205, W_1_8, ⟨by decide +kernel, by decide +kernel⟩, by decide +kernel⟩
theorem dX6_useUp_0 : decode cX6_useUp 0 = .ok (.aload_n 0, 1) := by decide +kernel
theorem dX6_useUp_1 : decode cX6_useUp 1 = .ok (.iconst 0, 1) := by decide +kernel
theorem dX6_useUp_2 : decode cX6_useUp 2 = .ok (.putfield 15, 3) := by decide +kernel
theorem dX6_useUp_5 : decode cX6_useUp 5 = .ok (.return_, 1) := by decide +kernel
set_option maxRecDepth 100000 in
set_option maxHeartbeats 1000000 in
theorem c_X6_useUp {l : Launch} {D : va_G} {aC : Nat → ClassId} {b0 fu : Nat} {a0 : Nat} {σ τ : tM} {v : Unit} (hm : m_X6_useUp b0 fu a0 σ = some (v, τ)) : tMt l D aC b0 yX6_useUp (Cond.code yX6_useUp cX6_useUp 1 none) 0 0 [.ref (a0)] σ (.inl none) τ := by
  unfold m_X6_useUp at hm
  obtain ⟨hg, hm⟩ := grw_e hm
  refine tMt_of (n := 0) rfl (Nat.le_of_ble_eq_true rfl) hg ?_
  intro p e s m below meth c C htab hin
  refine zx_lv [0] [(0, .ref (a0))] rfl ?_
  refine zx_aload_n C dX6_useUp_0 0 rfl ?_
  refine zx_iconst (v := 0) C dX6_useUp_1 (by decide) ?_
  obtain ⟨k1, i2, hm⟩ := ckO_e hm
  refine zx_put (j := 1) (ρ := sI (σ) (a0) 1 (0)) C tC_6 k1 i2 ⟨by decide, Or.inl W_2_43⟩ rfl rfl rfl (sI_ok (fun _ => rfl)) dX6_useUp_2 ?_
  obtain ⟨rfl, rfl⟩ := ret_e hm
  exact zx_vret C rfl rfl rfl dX6_useUp_5
abbrev cX6_octet : ByteArray := prog_8_method_5_code
def yX6_octet : MethodName := ⟨"SyncTree$Tape", "octet", "(I)B"⟩
theorem Y_X6_octet : tY yX6_octet cX6_octet 2 (some .byte) 1 := ⟨W_3_37, W_1_8, ⟨by decide +kernel, by decide +kernel⟩, by decide +kernel⟩
theorem dX6_octet_0 : decode cX6_octet 0 = .ok (.iload_n 1, 1) := by decide +kernel
theorem dX6_octet_1 : decode cX6_octet 1 = .ok (.ifCond .lt 10, 3) := by decide +kernel
theorem dX6_octet_4 : decode cX6_octet 4 = .ok (.iload_n 1, 1) := by decide +kernel
theorem dX6_octet_5 : decode cX6_octet 5 = .ok (.sipush 4000, 3) := by decide +kernel
theorem dX6_octet_8 : decode cX6_octet 8 = .ok (.if_icmp .lt 7, 3) := by decide +kernel
theorem dX6_octet_11 : decode cX6_octet 11 = .ok (.iconst 0, 1) := by decide +kernel
theorem dX6_octet_12 : decode cX6_octet 12 = .ok (.goto 9, 3) := by decide +kernel
theorem dX6_octet_15 : decode cX6_octet 15 = .ok (.aload_n 0, 1) := by decide +kernel
theorem dX6_octet_16 : decode cX6_octet 16 = .ok (.getfield 11, 3) := by decide +kernel
theorem dX6_octet_19 : decode cX6_octet 19 = .ok (.iload_n 1, 1) := by decide +kernel
theorem dX6_octet_20 : decode cX6_octet 20 = .ok (.baload, 1) := by decide +kernel
theorem dX6_octet_21 : decode cX6_octet 21 = .ok (.ireturn, 1) := by decide +kernel
set_option maxRecDepth 100000 in
set_option maxHeartbeats 1000000 in
theorem j_X6_octet_21 {p : Program} {l : Launch} {e : Env} {s : State} {m : MethodId} {args : Array Value} {below : List Frame} {meth : Method} {c : Code} {D : va_G} {aC : Nat → ClassId} {b0 fu : Nat} {σ0 τ : tM} {v : Int32}  (C : tCx p l s m args meth c yX6_octet.cls cX6_octet 2 (some .byte) D aC b0 σ0) (htab : ∀ x ∈ c.exceptionTable.toList, False) (hin : meth.name = yX6_octet.name)  {s0 : Int32} {σ : tM} (hm : J_X6_octet_21 b0 fu  s0 σ = some (v, τ)) : tX p l e s m args below meth c 2 0 0 D aC b0 σ0 (.inl (some (.int v))) τ 21 [] [.int (s0)] σ := by
  unfold J_X6_octet_21 at hm
  obtain ⟨h2, hm⟩ := ckB_e hm
  obtain ⟨rfl, rfl⟩ := ret_e hm
  exact zx_zret C rfl h2 rfl rfl dX6_octet_21
set_option maxRecDepth 100000 in
set_option maxHeartbeats 1000000 in
theorem j_X6_octet_11 {p : Program} {l : Launch} {e : Env} {s : State} {m : MethodId} {args : Array Value} {below : List Frame} {meth : Method} {c : Code} {D : va_G} {aC : Nat → ClassId} {b0 fu : Nat} {σ0 τ : tM} {v : Int32}  (C : tCx p l s m args meth c yX6_octet.cls cX6_octet 2 (some .byte) D aC b0 σ0) (htab : ∀ x ∈ c.exceptionTable.toList, False) (hin : meth.name = yX6_octet.name)   {σ : tM} (hm : J_X6_octet_11 b0 fu   σ = some (v, τ)) : tX p l e s m args below meth c 2 0 0 D aC b0 σ0 (.inl (some (.int v))) τ 11 [] [] σ := by
  unfold J_X6_octet_11 at hm
  refine zx_iconst (v := 0) C dX6_octet_11 (by decide) ?_
  refine zx_goto C 21 dX6_octet_12 (by decide) ?_
  exact zx_lv [] [] rfl (j_X6_octet_21 C htab hin    hm)
set_option maxRecDepth 100000 in
set_option maxHeartbeats 1000000 in
theorem c_X6_octet {l : Launch} {D : va_G} {aC : Nat → ClassId} {b0 fu : Nat} {a0 : Nat} {p0 : Int32} {σ τ : tM} {v : Int32} (hm : m_X6_octet b0 fu a0 p0 σ = some (v, τ)) : tMt l D aC b0 yX6_octet (Cond.code yX6_octet cX6_octet 2 (some .byte)) 0 0 [.ref (a0), .int (p0)] σ (.inl (some (.int v))) τ := by
  unfold m_X6_octet at hm
  obtain ⟨hg, hm⟩ := grw_e hm
  refine tMt_of (n := 0) rfl (Nat.le_of_ble_eq_true rfl) hg ?_
  intro p e s m below meth c C htab hin
  refine zx_lv [0, 1] [(0, .ref (a0)), (1, .int (p0))] rfl ?_
  refine zx_iload_n C dX6_octet_0 1 rfl ?_
  refine zx_if_lt C 11 dX6_octet_1 (by decide) (fun c1 => ?_) (fun c1 => ?_)
  · replace hm := ip_e hm c1
    exact zx_lv [] [] rfl (j_X6_octet_11 C htab hin    hm)
  · replace hm := in_e hm c1
    refine zx_iload_n C dX6_octet_4 1 rfl ?_
    refine zx_sipush (v := 4000) C dX6_octet_5 (by decide) ?_
    refine zx_icmp_lt C 15 dX6_octet_8 (by decide) (fun c3 => ?_) (fun c3 => ?_)
    · replace hm := ip_e hm c3
      refine zx_aload_n C dX6_octet_15 0 rfl ?_
      obtain ⟨k4, i5, hm⟩ := ckO_e hm
      obtain ⟨a6, h7, hm⟩ := osm_e hm
      refine zx_get (j := 0) C tC_6 k4 i5 ⟨by decide, Or.inl W_2_42⟩ dX6_octet_16 (.ref a6) (rf_s h7) ?_
      refine zx_iload_n C dX6_octet_19 1 rfl ?_
      obtain ⟨n10, k8, i9, hm⟩ := ckR_e hm
      obtain ⟨h11, hm⟩ := ckI_e hm
      refine zx_bald C k8 i9 h11 dX6_octet_20 ?_
      exact zx_lv [] [] rfl (j_X6_octet_21 C htab hin    hm)
    · replace hm := in_e hm c3
      exact zx_lv [] [] rfl (j_X6_octet_11 C htab hin    hm)
