abbrev cX8_isChanged : ByteArray := prog_10_method_19_code
def yX8_isChanged : MethodName := ⟨"SyncTree$Tree", "isChanged", "(I)Z"⟩
theorem Y_X8_isChanged : tY yX8_isChanged cX8_isChanged 2 (some .boolean) 1 := ⟨W_6_72, W_1_4, ⟨by decide +kernel, by decide +kernel⟩, by decide +kernel⟩
theorem dX8_isChanged_0 : decode cX8_isChanged 0 = .ok (.iload_n 1, 1) := by decide +kernel
theorem dX8_isChanged_1 : decode cX8_isChanged 1 = .ok (.ifCond .lt 22, 3) := by decide +kernel
theorem dX8_isChanged_4 : decode cX8_isChanged 4 = .ok (.iload_n 1, 1) := by decide +kernel
theorem dX8_isChanged_5 : decode cX8_isChanged 5 = .ok (.bipush 64, 2) := by decide +kernel
theorem dX8_isChanged_7 : decode cX8_isChanged 7 = .ok (.if_icmp .ge 16, 3) := by decide +kernel
theorem dX8_isChanged_10 : decode cX8_isChanged 10 = .ok (.aload_n 0, 1) := by decide +kernel
theorem dX8_isChanged_11 : decode cX8_isChanged 11 = .ok (.getfield 11, 3) := by decide +kernel
theorem dX8_isChanged_14 : decode cX8_isChanged 14 = .ok (.iload_n 1, 1) := by decide +kernel
theorem dX8_isChanged_15 : decode cX8_isChanged 15 = .ok (.baload, 1) := by decide +kernel
theorem dX8_isChanged_16 : decode cX8_isChanged 16 = .ok (.ifCond .eq 7, 3) := by decide +kernel
theorem dX8_isChanged_19 : decode cX8_isChanged 19 = .ok (.iconst 1, 1) := by decide +kernel
theorem dX8_isChanged_20 : decode cX8_isChanged 20 = .ok (.goto 4, 3) := by decide +kernel
theorem dX8_isChanged_23 : decode cX8_isChanged 23 = .ok (.iconst 0, 1) := by decide +kernel
theorem dX8_isChanged_24 : decode cX8_isChanged 24 = .ok (.ireturn, 1) := by decide +kernel
set_option maxRecDepth 100000 in
set_option maxHeartbeats 1000000 in
theorem j_X8_isChanged_24 {p : Program} {l : Launch} {e : Env} {s : State} {m : MethodId} {args : Array Value} {below : List Frame} {meth : Method} {c : Code} {D : va_G} {aC : Nat → ClassId} {b0 fu : Nat} {σ0 τ : tM} {v : Int32}  (C : tCx p l s m args meth c yX8_isChanged.cls cX8_isChanged 2 (some .boolean) D aC b0 σ0) (htab : ∀ x ∈ c.exceptionTable.toList, False) (hin : meth.name = yX8_isChanged.name)  {s0 : Int32} {σ : tM} (hm : J_X8_isChanged_24 b0 fu  s0 σ = some (v, τ)) : tX p l e s m args below meth c 2 0 0 D aC b0 σ0 (.inl (some (.int v))) τ 24 [] [.int (s0)] σ := by
  unfold J_X8_isChanged_24 at hm
  obtain ⟨h2, hm⟩ := ckZ_e hm
  obtain ⟨rfl, rfl⟩ := ret_e hm
  exact zx_zret C rfl h2 rfl rfl dX8_isChanged_24
set_option maxRecDepth 100000 in
set_option maxHeartbeats 1000000 in
theorem j_X8_isChanged_23 {p : Program} {l : Launch} {e : Env} {s : State} {m : MethodId} {args : Array Value} {below : List Frame} {meth : Method} {c : Code} {D : va_G} {aC : Nat → ClassId} {b0 fu : Nat} {σ0 τ : tM} {v : Int32}  (C : tCx p l s m args meth c yX8_isChanged.cls cX8_isChanged 2 (some .boolean) D aC b0 σ0) (htab : ∀ x ∈ c.exceptionTable.toList, False) (hin : meth.name = yX8_isChanged.name)   {σ : tM} (hm : J_X8_isChanged_23 b0 fu   σ = some (v, τ)) : tX p l e s m args below meth c 2 0 0 D aC b0 σ0 (.inl (some (.int v))) τ 23 [] [] σ := by
  unfold J_X8_isChanged_23 at hm
  refine zx_iconst (v := 0) C dX8_isChanged_23 (by decide) ?_
  exact zx_lv [] [] rfl (j_X8_isChanged_24 C htab hin    hm)
set_option maxRecDepth 100000 in
set_option maxHeartbeats 1000000 in
theorem c_X8_isChanged {l : Launch} {D : va_G} {aC : Nat → ClassId} {b0 fu : Nat} {a0 : Nat} {p0 : Int32} {σ τ : tM} {v : Int32} (hm : m_X8_isChanged b0 fu a0 p0 σ = some (v, τ)) : tMt l D aC b0 yX8_isChanged (Cond.code yX8_isChanged cX8_isChanged 2 (some .boolean)) 0 0 [.ref (a0), .int (p0)] σ (.inl (some (.int v))) τ := by
  unfold m_X8_isChanged at hm
  obtain ⟨hg, hm⟩ := grw_e hm
  refine tMt_of (n := 0) rfl (Nat.le_of_ble_eq_true rfl) hg ?_
  intro p e s m below meth c C htab hin
  refine zx_lv [0, 1] [(0, .ref (a0)), (1, .int (p0))] rfl ?_
  refine zx_iload_n C dX8_isChanged_0 1 rfl ?_
  refine zx_if_lt C 23 dX8_isChanged_1 (by decide) (fun c1 => ?_) (fun c1 => ?_)
  · replace hm := ip_e hm c1
    exact zx_lv [] [] rfl (j_X8_isChanged_23 C htab hin    hm)
  · replace hm := in_e hm c1
    refine zx_iload_n C dX8_isChanged_4 1 rfl ?_
    refine zx_bipush (v := 64) C dX8_isChanged_5 (by decide) ?_
    refine zx_icmp_ge C 23 dX8_isChanged_7 (by decide) (fun c3 => ?_) (fun c3 => ?_)
    · replace hm := ip_e hm c3
      exact zx_lv [] [] rfl (j_X8_isChanged_23 C htab hin    hm)
    · replace hm := in_e hm c3
      refine zx_aload_n C dX8_isChanged_10 0 rfl ?_
      obtain ⟨k4, i5, hm⟩ := ckO_e hm
      obtain ⟨a6, h7, hm⟩ := osm_e hm
      refine zx_get (j := 2) C tC_8 k4 i5 ⟨by decide, Or.inl W_1_165⟩ dX8_isChanged_11 (.ref a6) (rf_s h7) ?_
      refine zx_iload_n C dX8_isChanged_14 1 rfl ?_
      obtain ⟨n10, k8, i9, hm⟩ := ckR_e hm
      obtain ⟨h11, hm⟩ := ckI_e hm
      refine zx_bald C k8 i9 h11 dX8_isChanged_15 ?_
      refine zx_if_eq C 23 dX8_isChanged_16 (by decide) (fun c12 => ?_) (fun c12 => ?_)
      · replace hm := ip_e hm c12
        exact zx_lv [] [] rfl (j_X8_isChanged_23 C htab hin    hm)
      · replace hm := in_e hm c12
        refine zx_iconst (v := 1) C dX8_isChanged_19 (by decide) ?_
        refine zx_goto C 24 dX8_isChanged_20 (by decide) ?_
        exact zx_lv [] [] rfl (j_X8_isChanged_24 C htab hin    hm)
abbrev cX8_noteChange : ByteArray := prog_10_method_20_code
def yX8_noteChange : MethodName := ⟨"SyncTree$Tree", "noteChange", "(II)V"⟩
theorem Y_X8_noteChange : tY yX8_noteChange cX8_noteChange 3 none 2 := ⟨W_2_163, W_1_4, ⟨by decide +kernel, by decide +kernel⟩, by decide +kernel⟩
theorem dX8_noteChange_0 : decode cX8_noteChange 0 = .ok (.iload_n 1, 1) := by decide +kernel
theorem dX8_noteChange_1 : decode cX8_noteChange 1 = .ok (.ifCond .lt 17, 3) := by decide +kernel
theorem dX8_noteChange_4 : decode cX8_noteChange 4 = .ok (.iload_n 1, 1) := by decide +kernel
theorem dX8_noteChange_5 : decode cX8_noteChange 5 = .ok (.bipush 64, 2) := by decide +kernel
theorem dX8_noteChange_7 : decode cX8_noteChange 7 = .ok (.if_icmp .ge 11, 3) := by decide +kernel
theorem dX8_noteChange_10 : decode cX8_noteChange 10 = .ok (.aload_n 0, 1) := by decide +kernel
theorem dX8_noteChange_11 : decode cX8_noteChange 11 = .ok (.getfield 11, 3) := by decide +kernel
theorem dX8_noteChange_14 : decode cX8_noteChange 14 = .ok (.iload_n 1, 1) := by decide +kernel
theorem dX8_noteChange_15 : decode cX8_noteChange 15 = .ok (.iload_n 2, 1) := by decide +kernel
theorem dX8_noteChange_16 : decode cX8_noteChange 16 = .ok (.i2b, 1) := by decide +kernel
theorem dX8_noteChange_17 : decode cX8_noteChange 17 = .ok (.bastore, 1) := by decide +kernel
theorem dX8_noteChange_18 : decode cX8_noteChange 18 = .ok (.return_, 1) := by decide +kernel
set_option maxRecDepth 100000 in
set_option maxHeartbeats 1000000 in
theorem j_X8_noteChange_18 {p : Program} {l : Launch} {e : Env} {s : State} {m : MethodId} {args : Array Value} {below : List Frame} {meth : Method} {c : Code} {D : va_G} {aC : Nat → ClassId} {b0 fu : Nat} {σ0 τ : tM} {v : Unit}  (C : tCx p l s m args meth c yX8_noteChange.cls cX8_noteChange 3 none D aC b0 σ0) (htab : ∀ x ∈ c.exceptionTable.toList, False) (hin : meth.name = yX8_noteChange.name)   {σ : tM} (hm : J_X8_noteChange_18 b0 fu   σ = some (v, τ)) : tX p l e s m args below meth c 3 0 0 D aC b0 σ0 (.inl none) τ 18 [] [] σ := by
  unfold J_X8_noteChange_18 at hm
  obtain ⟨rfl, rfl⟩ := ret_e hm
  exact zx_vret C rfl rfl rfl dX8_noteChange_18
set_option maxRecDepth 100000 in
set_option maxHeartbeats 1000000 in
theorem c_X8_noteChange {l : Launch} {D : va_G} {aC : Nat → ClassId} {b0 fu : Nat} {a0 : Nat} {p0 : Int32} {p1 : Int32} {σ τ : tM} {v : Unit} (hm : m_X8_noteChange b0 fu a0 p0 p1 σ = some (v, τ)) : tMt l D aC b0 yX8_noteChange (Cond.code yX8_noteChange cX8_noteChange 3 none) 0 0 [.ref (a0), .int (p0), .int (p1)] σ (.inl none) τ := by
  unfold m_X8_noteChange at hm
  obtain ⟨hg, hm⟩ := grw_e hm
  refine tMt_of (n := 0) rfl (Nat.le_of_ble_eq_true rfl) hg ?_
  intro p e s m below meth c C htab hin
  refine zx_lv [0, 1, 2] [(0, .ref (a0)), (1, .int (p0)), (2, .int (p1))] rfl ?_
  refine zx_iload_n C dX8_noteChange_0 1 rfl ?_
  refine zx_if_lt C 18 dX8_noteChange_1 (by decide) (fun c1 => ?_) (fun c1 => ?_)
  · replace hm := ip_e hm c1
    exact zx_lv [] [] rfl (j_X8_noteChange_18 C htab hin    hm)
  · replace hm := in_e hm c1
    refine zx_iload_n C dX8_noteChange_4 1 rfl ?_
    refine zx_bipush (v := 64) C dX8_noteChange_5 (by decide) ?_
    refine zx_icmp_ge C 18 dX8_noteChange_7 (by decide) (fun c2 => ?_) (fun c2 => ?_)
    · replace hm := ip_e hm c2
      exact zx_lv [] [] rfl (j_X8_noteChange_18 C htab hin    hm)
    · replace hm := in_e hm c2
      refine zx_aload_n C dX8_noteChange_10 0 rfl ?_
      obtain ⟨k3, i4, hm⟩ := ckO_e hm
      obtain ⟨a5, h6, hm⟩ := osm_e hm
      refine zx_get (j := 2) C tC_8 k3 i4 ⟨by decide, Or.inl W_1_165⟩ dX8_noteChange_11 (.ref a5) (rf_s h6) ?_
      refine zx_iload_n C dX8_noteChange_14 1 rfl ?_
      refine zx_iload_n C dX8_noteChange_15 2 rfl ?_
      refine zx_i2b C dX8_noteChange_16 ?_
      obtain ⟨n9, k7, i8, hm⟩ := ckR_e hm
      obtain ⟨h10, hm⟩ := ckI_e hm
      refine zx_bast C k7 i8 h10 dX8_noteChange_17 ?_
      exact zx_lv [] [] rfl (j_X8_noteChange_18 C htab hin    hm)
abbrev cX8_isWithin : ByteArray := prog_10_method_22_code
def yX8_isWithin : MethodName := ⟨"SyncTree$Tree", "isWithin", "(II)Z"⟩
theorem Y_X8_isWithin : tY yX8_isWithin cX8_isWithin 5 (some .boolean) 2 := ⟨W_5_113, W_1_4, ⟨by decide +kernel, by decide +kernel⟩, by decide +kernel⟩
theorem dX8_isWithin_0 : decode cX8_isWithin 0 = .ok (.iload_n 1, 1) := by decide +kernel
theorem dX8_isWithin_1 : decode cX8_isWithin 1 = .ok (.istore_n 3, 1) := by decide +kernel
theorem dX8_isWithin_2 : decode cX8_isWithin 2 = .ok (.iconst 0, 1) := by decide +kernel
theorem dX8_isWithin_3 : decode cX8_isWithin 3 = .ok (.istore 4, 2) := by decide +kernel
theorem dX8_isWithin_5 : decode cX8_isWithin 5 = .ok (.iload 4, 2) := by decide +kernel
theorem dX8_isWithin_7 : decode cX8_isWithin 7 = .ok (.bipush 64, 2) := by decide +kernel
theorem dX8_isWithin_9 : decode cX8_isWithin 9 = .ok (.if_icmp .gt 28, 3) := by decide +kernel
theorem dX8_isWithin_12 : decode cX8_isWithin 12 = .ok (.iload_n 3, 1) := by decide +kernel
theorem dX8_isWithin_13 : decode cX8_isWithin 13 = .ok (.iload_n 2, 1) := by decide +kernel
theorem dX8_isWithin_14 : decode cX8_isWithin 14 = .ok (.if_icmp .ne 5, 3) := by decide +kernel
theorem dX8_isWithin_17 : decode cX8_isWithin 17 = .ok (.iconst 1, 1) := by decide +kernel
theorem dX8_isWithin_18 : decode cX8_isWithin 18 = .ok (.ireturn, 1) := by decide +kernel
theorem dX8_isWithin_19 : decode cX8_isWithin 19 = .ok (.iload_n 3, 1) := by decide +kernel
theorem dX8_isWithin_20 : decode cX8_isWithin 20 = .ok (.ifCond .ne 5, 3) := by decide +kernel
theorem dX8_isWithin_23 : decode cX8_isWithin 23 = .ok (.iconst 0, 1) := by decide +kernel
theorem dX8_isWithin_24 : decode cX8_isWithin 24 = .ok (.ireturn, 1) := by decide +kernel
theorem dX8_isWithin_25 : decode cX8_isWithin 25 = .ok (.aload_n 0, 1) := by decide +kernel
theorem dX8_isWithin_26 : decode cX8_isWithin 26 = .ok (.iload_n 3, 1) := by decide +kernel
theorem dX8_isWithin_27 : decode cX8_isWithin 27 = .ok (.invokevirtual 50, 3) := by decide +kernel
theorem dX8_isWithin_30 : decode cX8_isWithin 30 = .ok (.istore_n 3, 1) := by decide +kernel
theorem dX8_isWithin_31 : decode cX8_isWithin 31 = .ok (.iinc 4 1, 3) := by decide +kernel
theorem dX8_isWithin_34 : decode cX8_isWithin 34 = .ok (.goto (-29), 3) := by decide +kernel
theorem dX8_isWithin_37 : decode cX8_isWithin 37 = .ok (.iconst 0, 1) := by decide +kernel
theorem dX8_isWithin_38 : decode cX8_isWithin 38 = .ok (.ireturn, 1) := by decide +kernel
set_option maxRecDepth 100000 in
set_option maxHeartbeats 1000000 in
theorem l_X8_isWithin_5 {p : Program} {l : Launch} {e : Env} {s : State} {m : MethodId} {args : Array Value} {below : List Frame} {meth : Method} {c : Code} {D : va_G} {aC : Nat → ClassId} {b0 fu : Nat} {σ0 τ : tM} {v : Int32}  (C : tCx p l s m args meth c yX8_isWithin.cls cX8_isWithin 5 (some .boolean) D aC b0 σ0) (htab : ∀ x ∈ c.exceptionTable.toList, False) (hin : meth.name = yX8_isWithin.name)  : ∀ (n : Nat) (x0 : Nat) (x2 : Int32) (x3 : Int32) (x4 : Int32) (σ : tM), L_X8_isWithin_5 b0 fu  n x0 x2 x3 x4 σ = some (v, τ) → tX p l e s m args below meth c 5 2 43 D aC b0 σ0 (.inl (some (.int v))) τ 5 [(0, .ref (x0)), (2, .int (x2)), (3, .int (x3)), (4, .int (x4))] [] σ := by
  intro n
  induction n with
  | zero => intro x0 x2 x3 x4 σ hm; unfold L_X8_isWithin_5 at hm; cases hm
  | succ n ih =>
    intro x0 x2 x3 x4 σ hm
    unfold L_X8_isWithin_5 at hm
    obtain ⟨rc5, hrc⟩ : ∃ z, z = L_X8_isWithin_5 b0 fu  n := ⟨_, rfl⟩
    replace hm := ltb_e hm hrc
    rw [← hrc] at ih
    have hrc5 := ih
    clear ih hrc
    refine zx_iload C dX8_isWithin_5 3 rfl ?_
    refine zx_bipush (v := 64) C dX8_isWithin_7 (by decide) ?_
    refine zx_icmp_gt C 37 dX8_isWithin_9 (by decide) (fun c1 => ?_) (fun c1 => ?_)
    · replace hm := ip_e hm c1
      refine zx_iconst (v := 0) C dX8_isWithin_37 (by decide) ?_
      obtain ⟨rfl, rfl⟩ := ret_e hm
      exact zx_zret C rfl (by decide) rfl rfl dX8_isWithin_38
    · replace hm := in_e hm c1
      refine zx_iload_n C dX8_isWithin_12 2 rfl ?_
      refine zx_iload_n C dX8_isWithin_13 1 rfl ?_
      refine zx_icmp_ne C 19 dX8_isWithin_14 (by decide) (fun c2 => ?_) (fun c2 => ?_)
      · replace hm := in_e hm c2
        refine zx_iload_n C dX8_isWithin_19 2 rfl ?_
        refine zx_if_ne C 25 dX8_isWithin_20 (by decide) (fun c3 => ?_) (fun c3 => ?_)
        · replace hm := in_e hm c3
          refine zx_aload_n C dX8_isWithin_25 0 rfl ?_
          refine zx_iload_n C dX8_isWithin_26 2 rfl ?_
          obtain ⟨k4, i5, hm⟩ := ckO_e hm
          obtain ⟨v6, ρ7, h8, hm⟩ := cll_e hm
          refine zx_callV (σ := σ) C [.int (x3)] tC_8 k4 i5 Y_X8_parent W_4_194 W_4_97 W_4_98 (c_X8_parent h8) (by decide) (by decide) rfl (Nat.le_of_ble_eq_true rfl) dX8_isWithin_27 rfl ?_
          refine zx_istore_n C [(3, .int (v6)), (0, .ref (x0)), (2, .int (x2)), (4, .int (x4))] dX8_isWithin_30 rfl (by decide) rfl ?_
          obtain ⟨y9, hy9⟩ : ∃ z : Int32, z = (x4) + Int32.ofInt 1 := ⟨_, rfl⟩
          replace hm := ltb_e hm hy9
          refine zx_iinc C [(4, .int (y9)), (3, .int (v6)), (0, .ref (x0)), (2, .int (x2))] dX8_isWithin_31 3 rfl hy9.symm (by decide) rfl ?_
          refine zx_goto C 5 dX8_isWithin_34 (by decide) ?_
          exact zx_lv [2, 3, 1, 0] [(0, .ref (x0)), (2, .int (x2)), (3, .int (v6)), (4, .int (y9))] rfl (hrc5 _ _ _ _ _ hm)
        · replace hm := ip_e hm c3
          refine zx_iconst (v := 0) C dX8_isWithin_23 (by decide) ?_
          obtain ⟨rfl, rfl⟩ := ret_e hm
          exact zx_zret C rfl (by decide) rfl rfl dX8_isWithin_24
      · replace hm := ip_e hm c2
        refine zx_iconst (v := 1) C dX8_isWithin_17 (by decide) ?_
        obtain ⟨rfl, rfl⟩ := ret_e hm
        exact zx_zret C rfl (by decide) rfl rfl dX8_isWithin_18
set_option maxRecDepth 100000 in
set_option maxHeartbeats 1000000 in
theorem c_X8_isWithin {l : Launch} {D : va_G} {aC : Nat → ClassId} {b0 fu : Nat} {a0 : Nat} {p0 : Int32} {p1 : Int32} {σ τ : tM} {v : Int32} (hm : m_X8_isWithin b0 fu a0 p0 p1 σ = some (v, τ)) : tMt l D aC b0 yX8_isWithin (Cond.code yX8_isWithin cX8_isWithin 5 (some .boolean)) 2 43 [.ref (a0), .int (p0), .int (p1)] σ (.inl (some (.int v))) τ := by
  unfold m_X8_isWithin at hm
  obtain ⟨hg, hm⟩ := grw_e hm
  refine tMt_of (n := 0) rfl (Nat.le_of_ble_eq_true rfl) hg ?_
  intro p e s m below meth c C htab hin
  refine zx_lv [0, 1, 2] [(0, .ref (a0)), (1, .int (p0)), (2, .int (p1))] rfl ?_
  refine zx_iload_n C dX8_isWithin_0 1 rfl ?_
  refine zx_istore_n C [(3, .int (p0)), (0, .ref (a0)), (1, .int (p0)), (2, .int (p1))] dX8_isWithin_1 rfl (by decide) rfl ?_
  refine zx_iconst (v := 0) C dX8_isWithin_2 (by decide) ?_
  refine zx_istore C [(4, .int (0)), (3, .int (p0)), (0, .ref (a0)), (1, .int (p0)), (2, .int (p1))] dX8_isWithin_3 (by decide) rfl ?_
  exact zx_lv [2, 4, 1, 0] [(0, .ref (a0)), (2, .int (p1)), (3, .int (p0)), (4, .int (0))] rfl (l_X8_isWithin_5 C htab hin  _ _ _ _ _ _ hm)
abbrev cX8_table : ByteArray := prog_10_method_25_code
def yX8_table : MethodName := ⟨"SyncTree$Tree", "table", "(II)J"⟩
theorem Y_X8_table : tY yX8_table cX8_table 5 (some .long) 2 := ⟨W_4_116, W_1_4, ⟨by decide +kernel, by decide +kernel⟩, by decide +kernel⟩
theorem dX8_table_0 : decode cX8_table 0 = .ok (.iload_n 1, 1) := by decide +kernel
theorem dX8_table_1 : decode cX8_table 1 = .ok (.ifCond .lt 22, 3) := by decide +kernel
theorem dX8_table_4 : decode cX8_table 4 = .ok (.iload_n 1, 1) := by decide +kernel
theorem dX8_table_5 : decode cX8_table 5 = .ok (.bipush 64, 2) := by decide +kernel
theorem dX8_table_7 : decode cX8_table 7 = .ok (.if_icmp .ge 16, 3) := by decide +kernel
theorem dX8_table_10 : decode cX8_table 10 = .ok (.iload_n 2, 1) := by decide +kernel
theorem dX8_table_11 : decode cX8_table 11 = .ok (.bipush 8, 2) := by decide +kernel
theorem dX8_table_13 : decode cX8_table 13 = .ok (.if_icmp .lt 10, 3) := by decide +kernel
theorem dX8_table_16 : decode cX8_table 16 = .ok (.iload_n 2, 1) := by decide +kernel
theorem dX8_table_17 : decode cX8_table 17 = .ok (.sipush 1064, 3) := by decide +kernel
theorem dX8_table_20 : decode cX8_table 20 = .ok (.if_icmp .lt 5, 3) := by decide +kernel
theorem dX8_table_23 : decode cX8_table 23 = .ok (.lconst 0, 1) := by decide +kernel
theorem dX8_table_24 : decode cX8_table 24 = .ok (.lreturn, 1) := by decide +kernel
theorem dX8_table_25 : decode cX8_table 25 = .ok (.bipush 64, 2) := by decide +kernel
theorem dX8_table_27 : decode cX8_table 27 = .ok (.iload_n 1, 1) := by decide +kernel
theorem dX8_table_28 : decode cX8_table 28 = .ok (.bipush 16, 2) := by decide +kernel
theorem dX8_table_30 : decode cX8_table 30 = .ok (.imul, 1) := by decide +kernel
theorem dX8_table_31 : decode cX8_table 31 = .ok (.iadd, 1) := by decide +kernel
theorem dX8_table_32 : decode cX8_table 32 = .ok (.istore_n 3, 1) := by decide +kernel
theorem dX8_table_33 : decode cX8_table 33 = .ok (.iload_n 2, 1) := by decide +kernel
theorem dX8_table_34 : decode cX8_table 34 = .ok (.bipush 40, 2) := by decide +kernel
theorem dX8_table_36 : decode cX8_table 36 = .ok (.if_icmp .ge 13, 3) := by decide +kernel
theorem dX8_table_39 : decode cX8_table 39 = .ok (.aload_n 0, 1) := by decide +kernel
theorem dX8_table_40 : decode cX8_table 40 = .ok (.getfield 25, 3) := by decide +kernel
theorem dX8_table_43 : decode cX8_table 43 = .ok (.iload_n 3, 1) := by decide +kernel
theorem dX8_table_44 : decode cX8_table 44 = .ok (.bipush 9, 2) := by decide +kernel
theorem dX8_table_46 : decode cX8_table 46 = .ok (.iadd, 1) := by decide +kernel
theorem dX8_table_47 : decode cX8_table 47 = .ok (.laload, 1) := by decide +kernel
theorem dX8_table_48 : decode cX8_table 48 = .ok (.lreturn, 1) := by decide +kernel
theorem dX8_table_49 : decode cX8_table 49 = .ok (.aload_n 0, 1) := by decide +kernel
theorem dX8_table_50 : decode cX8_table 50 = .ok (.getfield 25, 3) := by decide +kernel
theorem dX8_table_53 : decode cX8_table 53 = .ok (.iload_n 3, 1) := by decide +kernel
theorem dX8_table_54 : decode cX8_table 54 = .ok (.bipush 10, 2) := by decide +kernel
theorem dX8_table_56 : decode cX8_table 56 = .ok (.iadd, 1) := by decide +kernel
theorem dX8_table_57 : decode cX8_table 57 = .ok (.laload, 1) := by decide +kernel
theorem dX8_table_58 : decode cX8_table 58 = .ok (.l2i, 1) := by decide +kernel
theorem dX8_table_59 : decode cX8_table 59 = .ok (.sipush 2047, 3) := by decide +kernel
theorem dX8_table_62 : decode cX8_table 62 = .ok (.iand, 1) := by decide +kernel
theorem dX8_table_63 : decode cX8_table 63 = .ok (.istore 4, 2) := by decide +kernel
theorem dX8_table_65 : decode cX8_table 65 = .ok (.aload_n 0, 1) := by decide +kernel
theorem dX8_table_66 : decode cX8_table 66 = .ok (.getfield 25, 3) := by decide +kernel
theorem dX8_table_69 : decode cX8_table 69 = .ok (.iload 4, 2) := by decide +kernel
theorem dX8_table_71 : decode cX8_table 71 = .ok (.bipush 32, 2) := by decide +kernel
theorem dX8_table_73 : decode cX8_table 73 = .ok (.imul, 1) := by decide +kernel
theorem dX8_table_74 : decode cX8_table 74 = .ok (.iload_n 2, 1) := by decide +kernel
theorem dX8_table_75 : decode cX8_table 75 = .ok (.bipush 40, 2) := by decide +kernel
theorem dX8_table_77 : decode cX8_table 77 = .ok (.isub, 1) := by decide +kernel
theorem dX8_table_78 : decode cX8_table 78 = .ok (.bipush 32, 2) := by decide +kernel
theorem dX8_table_80 : decode cX8_table 80 = .ok (.idiv, 1) := by decide +kernel
theorem dX8_table_81 : decode cX8_table 81 = .ok (.iadd, 1) := by decide +kernel
theorem dX8_table_82 : decode cX8_table 82 = .ok (.laload, 1) := by decide +kernel
theorem dX8_table_83 : decode cX8_table 83 = .ok (.lreturn, 1) := by decide +kernel
set_option maxRecDepth 100000 in
set_option maxHeartbeats 1000000 in
theorem j_X8_table_23 {p : Program} {l : Launch} {e : Env} {s : State} {m : MethodId} {args : Array Value} {below : List Frame} {meth : Method} {c : Code} {D : va_G} {aC : Nat → ClassId} {b0 fu : Nat} {σ0 τ : tM} {v : Int64}  (C : tCx p l s m args meth c yX8_table.cls cX8_table 5 (some .long) D aC b0 σ0) (htab : ∀ x ∈ c.exceptionTable.toList, False) (hin : meth.name = yX8_table.name)   {σ : tM} (hm : J_X8_table_23 b0 fu   σ = some (v, τ)) : tX p l e s m args below meth c 5 0 0 D aC b0 σ0 (.inl (some (.long v))) τ 23 [] [] σ := by
  unfold J_X8_table_23 at hm
  refine zx_lconst (v := 0) C dX8_table_23 (by decide) ?_
  obtain ⟨rfl, rfl⟩ := ret_e hm
  exact zx_lret C rfl rfl rfl dX8_table_24
set_option maxRecDepth 100000 in
set_option maxHeartbeats 1000000 in
theorem c_X8_table {l : Launch} {D : va_G} {aC : Nat → ClassId} {b0 fu : Nat} {a0 : Nat} {p0 : Int32} {p1 : Int32} {σ τ : tM} {v : Int64} (hm : m_X8_table b0 fu a0 p0 p1 σ = some (v, τ)) : tMt l D aC b0 yX8_table (Cond.code yX8_table cX8_table 5 (some .long)) 0 0 [.ref (a0), .int (p0), .int (p1)] σ (.inl (some (.long v))) τ := by
  unfold m_X8_table at hm
  obtain ⟨hg, hm⟩ := grw_e hm
  refine tMt_of (n := 0) rfl (Nat.le_of_ble_eq_true rfl) hg ?_
  intro p e s m below meth c C htab hin
  refine zx_lv [0, 1, 2] [(0, .ref (a0)), (1, .int (p0)), (2, .int (p1))] rfl ?_
  refine zx_iload_n C dX8_table_0 1 rfl ?_
  refine zx_if_lt C 23 dX8_table_1 (by decide) (fun c1 => ?_) (fun c1 => ?_)
  · replace hm := ip_e hm c1
    exact zx_lv [] [] rfl (j_X8_table_23 C htab hin    hm)
  · replace hm := in_e hm c1
    refine zx_iload_n C dX8_table_4 1 rfl ?_
    refine zx_bipush (v := 64) C dX8_table_5 (by decide) ?_
    refine zx_icmp_ge C 23 dX8_table_7 (by decide) (fun c2 => ?_) (fun c2 => ?_)
    · replace hm := ip_e hm c2
      exact zx_lv [] [] rfl (j_X8_table_23 C htab hin    hm)
    · replace hm := in_e hm c2
      refine zx_iload_n C dX8_table_10 2 rfl ?_
      refine zx_bipush (v := 8) C dX8_table_11 (by decide) ?_
      refine zx_icmp_lt C 23 dX8_table_13 (by decide) (fun c3 => ?_) (fun c3 => ?_)
      · replace hm := ip_e hm c3
        exact zx_lv [] [] rfl (j_X8_table_23 C htab hin    hm)
      · replace hm := in_e hm c3
        refine zx_iload_n C dX8_table_16 2 rfl ?_
        refine zx_sipush (v := 1064) C dX8_table_17 (by decide) ?_
        refine zx_icmp_lt C 25 dX8_table_20 (by decide) (fun c4 => ?_) (fun c4 => ?_)
        · replace hm := ip_e hm c4
          refine zx_bipush (v := 64) C dX8_table_25 (by decide) ?_
          refine zx_iload_n C dX8_table_27 1 rfl ?_
          refine zx_bipush (v := 16) C dX8_table_28 (by decide) ?_
          refine zx_imul C dX8_table_30 ?_
          refine zx_iadd C dX8_table_31 ?_
          refine zx_topi (fun y5 hy5 => ?_)
          replace hm := ltb_e hm hy5
          refine zx_istore_n C [(3, .int (y5)), (0, .ref (a0)), (1, .int (p0)), (2, .int (p1))] dX8_table_32 rfl (by decide) rfl ?_
          refine zx_iload_n C dX8_table_33 3 rfl ?_
          refine zx_bipush (v := 40) C dX8_table_34 (by decide) ?_
          refine zx_icmp_ge C 49 dX8_table_36 (by decide) (fun c6 => ?_) (fun c6 => ?_)
          · replace hm := ip_e hm c6
            refine zx_aload_n C dX8_table_49 1 rfl ?_
            obtain ⟨k7, i8, hm⟩ := ckO_e hm
            obtain ⟨a9, h10, hm⟩ := osm_e hm
            refine zx_get (j := 1) C tC_8 k7 i8 ⟨by decide, Or.inl W_1_164⟩ dX8_table_50 (.ref a9) (rf_s h10) ?_
            refine zx_iload_n C dX8_table_53 0 rfl ?_
            refine zx_bipush (v := 10) C dX8_table_54 (by decide) ?_
            refine zx_iadd C dX8_table_56 ?_
            obtain ⟨n13, k11, i12, hm⟩ := ckR_e hm
            obtain ⟨h14, hm⟩ := ckI_e hm
            refine zx_lald C k11 i12 h14 dX8_table_57 ?_
            refine zx_l2i C dX8_table_58 ?_
            refine zx_sipush (v := 2047) C dX8_table_59 (by decide) ?_
            refine zx_iand C dX8_table_62 ?_
            refine zx_topi (fun y15 hy15 => ?_)
            replace hm := ltb_e hm hy15
            refine zx_istore C [(4, .int (y15)), (3, .int (y5)), (0, .ref (a0)), (1, .int (p0)), (2, .int (p1))] dX8_table_63 (by decide) rfl ?_
            refine zx_aload_n C dX8_table_65 2 rfl ?_
            obtain ⟨a16, h17, hm⟩ := osm_e hm
            refine zx_get (j := 1) C tC_8 k7 i8 ⟨by decide, Or.inl W_1_164⟩ dX8_table_66 (.ref a16) (rf_s h17) ?_
            refine zx_iload C dX8_table_69 0 rfl ?_
            refine zx_bipush (v := 32) C dX8_table_71 (by decide) ?_
            refine zx_imul C dX8_table_73 ?_
            refine zx_iload_n C dX8_table_74 4 rfl ?_
            refine zx_bipush (v := 40) C dX8_table_75 (by decide) ?_
            refine zx_isub C dX8_table_77 ?_
            refine zx_bipush (v := 32) C dX8_table_78 (by decide) ?_
            refine zx_idiv C dX8_table_80 (by decide) ?_
            refine zx_iadd C dX8_table_81 ?_
            obtain ⟨n20, k18, i19, hm⟩ := ckR_e hm
            obtain ⟨h21, hm⟩ := ckI_e hm
            refine zx_lald C k18 i19 h21 dX8_table_82 ?_
            obtain ⟨rfl, rfl⟩ := ret_e hm
            exact zx_lret C rfl rfl rfl dX8_table_83
          · replace hm := in_e hm c6
            refine zx_aload_n C dX8_table_39 1 rfl ?_
            obtain ⟨k23, i24, hm⟩ := ckO_e hm
            obtain ⟨a25, h26, hm⟩ := osm_e hm
            refine zx_get (j := 1) C tC_8 k23 i24 ⟨by decide, Or.inl W_1_164⟩ dX8_table_40 (.ref a25) (rf_s h26) ?_
            refine zx_iload_n C dX8_table_43 0 rfl ?_
            refine zx_bipush (v := 9) C dX8_table_44 (by decide) ?_
            refine zx_iadd C dX8_table_46 ?_
            obtain ⟨n29, k27, i28, hm⟩ := ckR_e hm
            obtain ⟨h30, hm⟩ := ckI_e hm
            refine zx_lald C k27 i28 h30 dX8_table_47 ?_
            obtain ⟨rfl, rfl⟩ := ret_e hm
            exact zx_lret C rfl rfl rfl dX8_table_48
        · replace hm := in_e hm c4
          exact zx_lv [] [] rfl (j_X8_table_23 C htab hin    hm)
abbrev cX8_pointer : ByteArray := prog_10_method_26_code
def yX8_pointer : MethodName := ⟨"SyncTree$Tree", "pointer", "(II)J"⟩
theorem Y_X8_pointer : tY yX8_pointer cX8_pointer 4 (some .long) 2 := ⟨W_4_112, W_1_4, ⟨by decide +kernel, by decide +kernel⟩, by decide +kernel⟩
theorem dX8_pointer_0 : decode cX8_pointer 0 = .ok (.iload_n 2, 1) := by decide +kernel
theorem dX8_pointer_1 : decode cX8_pointer 1 = .ok (.bipush 8, 2) := by decide +kernel
theorem dX8_pointer_3 : decode cX8_pointer 3 = .ok (.if_icmp .ge 20, 3) := by decide +kernel
theorem dX8_pointer_6 : decode cX8_pointer 6 = .ok (.iload_n 2, 1) := by decide +kernel
theorem dX8_pointer_7 : decode cX8_pointer 7 = .ok (.ifCond .ge 7, 3) := by decide +kernel
theorem dX8_pointer_10 : decode cX8_pointer 10 = .ok (.lconst 0, 1) := by decide +kernel
theorem dX8_pointer_11 : decode cX8_pointer 11 = .ok (.goto 11, 3) := by decide +kernel
theorem dX8_pointer_14 : decode cX8_pointer 14 = .ok (.aload_n 0, 1) := by decide +kernel
theorem dX8_pointer_15 : decode cX8_pointer 15 = .ok (.iload_n 1, 1) := by decide +kernel
theorem dX8_pointer_16 : decode cX8_pointer 16 = .ok (.iconst 1, 1) := by decide +kernel
theorem dX8_pointer_17 : decode cX8_pointer 17 = .ok (.iload_n 2, 1) := by decide +kernel
theorem dX8_pointer_18 : decode cX8_pointer 18 = .ok (.iadd, 1) := by decide +kernel
theorem dX8_pointer_19 : decode cX8_pointer 19 = .ok (.invokevirtual 30, 3) := by decide +kernel
theorem dX8_pointer_22 : decode cX8_pointer 22 = .ok (.lreturn, 1) := by decide +kernel
theorem dX8_pointer_23 : decode cX8_pointer 23 = .ok (.aload_n 0, 1) := by decide +kernel
theorem dX8_pointer_24 : decode cX8_pointer 24 = .ok (.iload_n 1, 1) := by decide +kernel
theorem dX8_pointer_25 : decode cX8_pointer 25 = .ok (.iload_n 2, 1) := by decide +kernel
theorem dX8_pointer_26 : decode cX8_pointer 26 = .ok (.invokevirtual 101, 3) := by decide +kernel
theorem dX8_pointer_29 : decode cX8_pointer 29 = .ok (.l2i, 1) := by decide +kernel
theorem dX8_pointer_30 : decode cX8_pointer 30 = .ok (.sipush 2047, 3) := by decide +kernel
theorem dX8_pointer_33 : decode cX8_pointer 33 = .ok (.iand, 1) := by decide +kernel
theorem dX8_pointer_34 : decode cX8_pointer 34 = .ok (.istore_n 3, 1) := by decide +kernel
theorem dX8_pointer_35 : decode cX8_pointer 35 = .ok (.aload_n 0, 1) := by decide +kernel
theorem dX8_pointer_36 : decode cX8_pointer 36 = .ok (.getfield 25, 3) := by decide +kernel
theorem dX8_pointer_39 : decode cX8_pointer 39 = .ok (.iload_n 3, 1) := by decide +kernel
theorem dX8_pointer_40 : decode cX8_pointer 40 = .ok (.bipush 32, 2) := by decide +kernel
theorem dX8_pointer_42 : decode cX8_pointer 42 = .ok (.imul, 1) := by decide +kernel
theorem dX8_pointer_43 : decode cX8_pointer 43 = .ok (.iload_n 2, 1) := by decide +kernel
theorem dX8_pointer_44 : decode cX8_pointer 44 = .ok (.bipush 8, 2) := by decide +kernel
theorem dX8_pointer_46 : decode cX8_pointer 46 = .ok (.isub, 1) := by decide +kernel
theorem dX8_pointer_47 : decode cX8_pointer 47 = .ok (.bipush 32, 2) := by decide +kernel
theorem dX8_pointer_49 : decode cX8_pointer 49 = .ok (.irem, 1) := by decide +kernel
theorem dX8_pointer_50 : decode cX8_pointer 50 = .ok (.iadd, 1) := by decide +kernel
theorem dX8_pointer_51 : decode cX8_pointer 51 = .ok (.laload, 1) := by decide +kernel
theorem dX8_pointer_52 : decode cX8_pointer 52 = .ok (.lreturn, 1) := by decide +kernel
set_option maxRecDepth 100000 in
set_option maxHeartbeats 1000000 in
theorem j_X8_pointer_22 {p : Program} {l : Launch} {e : Env} {s : State} {m : MethodId} {args : Array Value} {below : List Frame} {meth : Method} {c : Code} {D : va_G} {aC : Nat → ClassId} {b0 fu : Nat} {σ0 τ : tM} {v : Int64}  (C : tCx p l s m args meth c yX8_pointer.cls cX8_pointer 4 (some .long) D aC b0 σ0) (htab : ∀ x ∈ c.exceptionTable.toList, False) (hin : meth.name = yX8_pointer.name)  {s0 : Int64} {σ : tM} (hm : J_X8_pointer_22 b0 fu  s0 σ = some (v, τ)) : tX p l e s m args below meth c 4 1 24 D aC b0 σ0 (.inl (some (.long v))) τ 22 [] [.long (s0)] σ := by
  unfold J_X8_pointer_22 at hm
  obtain ⟨rfl, rfl⟩ := ret_e hm
  exact zx_lret C rfl rfl rfl dX8_pointer_22
set_option maxRecDepth 100000 in
set_option maxHeartbeats 1000000 in
theorem c_X8_pointer {l : Launch} {D : va_G} {aC : Nat → ClassId} {b0 fu : Nat} {a0 : Nat} {p0 : Int32} {p1 : Int32} {σ τ : tM} {v : Int64} (hm : m_X8_pointer b0 fu a0 p0 p1 σ = some (v, τ)) : tMt l D aC b0 yX8_pointer (Cond.code yX8_pointer cX8_pointer 4 (some .long)) 1 24 [.ref (a0), .int (p0), .int (p1)] σ (.inl (some (.long v))) τ := by
  unfold m_X8_pointer at hm
  obtain ⟨hg, hm⟩ := grw_e hm
  refine tMt_of (n := 0) rfl (Nat.le_of_ble_eq_true rfl) hg ?_
  intro p e s m below meth c C htab hin
  refine zx_lv [0, 1, 2] [(0, .ref (a0)), (1, .int (p0)), (2, .int (p1))] rfl ?_
  refine zx_iload_n C dX8_pointer_0 2 rfl ?_
  refine zx_bipush (v := 8) C dX8_pointer_1 (by decide) ?_
  refine zx_icmp_ge C 23 dX8_pointer_3 (by decide) (fun c1 => ?_) (fun c1 => ?_)
  · replace hm := ip_e hm c1
    refine zx_aload_n C dX8_pointer_23 0 rfl ?_
    refine zx_iload_n C dX8_pointer_24 1 rfl ?_
    refine zx_iload_n C dX8_pointer_25 2 rfl ?_
    obtain ⟨k2, i3, hm⟩ := ckO_e hm
    obtain ⟨v4, ρ5, h6, hm⟩ := cll_e hm
    refine zx_callV (σ := σ) C [.int (p0), .int (p1)] tC_8 k2 i3 Y_X8_table W_4_113 W_4_115 Wp_25 (c_X8_table h6) (by decide) (by decide) rfl (Nat.le_of_ble_eq_true rfl) dX8_pointer_26 rfl ?_
    refine zx_l2i C dX8_pointer_29 ?_
    refine zx_sipush (v := 2047) C dX8_pointer_30 (by decide) ?_
    refine zx_iand C dX8_pointer_33 ?_
    refine zx_topi (fun y7 hy7 => ?_)
    replace hm := ltb_e hm hy7
    refine zx_istore_n C [(3, .int (y7)), (0, .ref (a0)), (1, .int (p0)), (2, .int (p1))] dX8_pointer_34 rfl (by decide) rfl ?_
    refine zx_aload_n C dX8_pointer_35 1 rfl ?_
    obtain ⟨k8, i9, hm⟩ := ckO_e hm
    obtain ⟨a10, h11, hm⟩ := osm_e hm
    refine zx_get (j := 1) C tC_8 k8 i9 ⟨by decide, Or.inl W_1_164⟩ dX8_pointer_36 (.ref a10) (rf_s h11) ?_
    refine zx_iload_n C dX8_pointer_39 0 rfl ?_
    refine zx_bipush (v := 32) C dX8_pointer_40 (by decide) ?_
    refine zx_imul C dX8_pointer_42 ?_
    refine zx_iload_n C dX8_pointer_43 3 rfl ?_
    refine zx_bipush (v := 8) C dX8_pointer_44 (by decide) ?_
    refine zx_isub C dX8_pointer_46 ?_
    refine zx_bipush (v := 32) C dX8_pointer_47 (by decide) ?_
    refine zx_irem C dX8_pointer_49 (by decide) ?_
    refine zx_iadd C dX8_pointer_50 ?_
    obtain ⟨n14, k12, i13, hm⟩ := ckR_e hm
    obtain ⟨h15, hm⟩ := ckI_e hm
    refine zx_lald C k12 i13 h15 dX8_pointer_51 ?_
    obtain ⟨rfl, rfl⟩ := ret_e hm
    exact zx_lret C rfl rfl rfl dX8_pointer_52
  · replace hm := in_e hm c1
    refine zx_iload_n C dX8_pointer_6 2 rfl ?_
    refine zx_if_ge C 14 dX8_pointer_7 (by decide) (fun c17 => ?_) (fun c17 => ?_)
    · replace hm := ip_e hm c17
      refine zx_aload_n C dX8_pointer_14 0 rfl ?_
      refine zx_iload_n C dX8_pointer_15 1 rfl ?_
      refine zx_iconst (v := 1) C dX8_pointer_16 (by decide) ?_
      refine zx_iload_n C dX8_pointer_17 2 rfl ?_
      refine zx_iadd C dX8_pointer_18 ?_
      obtain ⟨k18, i19, hm⟩ := ckO_e hm
      obtain ⟨v20, ρ21, h22, hm⟩ := cll_e hm
      refine zx_callV (σ := σ) C [.int (p0), .int ((1) + (p1))] tC_8 k18 i19 Y_X8_nodeWord W_3_83 W_3_84 W_3_85 (c_X8_nodeWord h22) (by decide) (by decide) rfl (Nat.le_of_ble_eq_true rfl) dX8_pointer_19 rfl ?_
      exact zx_lv [] [] rfl (j_X8_pointer_22 C htab hin    hm)
    · replace hm := in_e hm c17
      refine zx_lconst (v := 0) C dX8_pointer_10 (by decide) ?_
      refine zx_goto C 22 dX8_pointer_11 (by decide) ?_
      exact zx_lv [] [] rfl (j_X8_pointer_22 C htab hin    hm)
abbrev cX8_needs : ByteArray := prog_10_method_28_code
def yX8_needs : MethodName := ⟨"SyncTree$Tree", "needs", "(III)I"⟩
theorem Y_X8_needs : tY yX8_needs cX8_needs 7 (some .int) 3 := ⟨W_4_173, W_1_4, ⟨by decide +kernel, by decide +kernel⟩, by decide +kernel⟩
theorem dX8_needs_0 : decode cX8_needs 0 = .ok (.iload_n 3, 1) := by decide +kernel
theorem dX8_needs_1 : decode cX8_needs 1 = .ok (.sipush 1064, 3) := by decide +kernel
theorem dX8_needs_4 : decode cX8_needs 4 = .ok (.if_icmp .lt 6, 3) := by decide +kernel
theorem dX8_needs_7 : decode cX8_needs 7 = .ok (.ldc 111, 2) := by decide +kernel
theorem dX8_needs_9 : decode cX8_needs 9 = .ok (.ireturn, 1) := by decide +kernel
theorem dX8_needs_10 : decode cX8_needs 10 = .ok (.iconst 0, 1) := by decide +kernel
theorem dX8_needs_11 : decode cX8_needs 11 = .ok (.istore 4, 2) := by decide +kernel
theorem dX8_needs_13 : decode cX8_needs 13 = .ok (.iload_n 2, 1) := by decide +kernel
theorem dX8_needs_14 : decode cX8_needs 14 = .ok (.istore 5, 2) := by decide +kernel
theorem dX8_needs_16 : decode cX8_needs 16 = .ok (.iload 5, 2) := by decide +kernel
theorem dX8_needs_18 : decode cX8_needs 18 = .ok (.iload_n 3, 1) := by decide +kernel
theorem dX8_needs_19 : decode cX8_needs 19 = .ok (.if_icmp .gt 110, 3) := by decide +kernel
theorem dX8_needs_22 : decode cX8_needs 22 = .ok (.iload 5, 2) := by decide +kernel
theorem dX8_needs_24 : decode cX8_needs 24 = .ok (.iload_n 2, 1) := by decide +kernel
theorem dX8_needs_25 : decode cX8_needs 25 = .ok (.if_icmp .eq 14, 3) := by decide +kernel
theorem dX8_needs_28 : decode cX8_needs 28 = .ok (.iload 5, 2) := by decide +kernel
theorem dX8_needs_30 : decode cX8_needs 30 = .ok (.bipush 8, 2) := by decide +kernel
theorem dX8_needs_32 : decode cX8_needs 32 = .ok (.isub, 1) := by decide +kernel
theorem dX8_needs_33 : decode cX8_needs 33 = .ok (.bipush 32, 2) := by decide +kernel
theorem dX8_needs_35 : decode cX8_needs 35 = .ok (.irem, 1) := by decide +kernel
theorem dX8_needs_36 : decode cX8_needs 36 = .ok (.ifCond .ne 7, 3) := by decide +kernel
theorem dX8_needs_39 : decode cX8_needs 39 = .ok (.iconst 1, 1) := by decide +kernel
theorem dX8_needs_40 : decode cX8_needs 40 = .ok (.goto 4, 3) := by decide +kernel
theorem dX8_needs_43 : decode cX8_needs 43 = .ok (.iconst 0, 1) := by decide +kernel
theorem dX8_needs_44 : decode cX8_needs 44 = .ok (.istore 6, 2) := by decide +kernel
theorem dX8_needs_46 : decode cX8_needs 46 = .ok (.aload_n 0, 1) := by decide +kernel
theorem dX8_needs_47 : decode cX8_needs 47 = .ok (.iload_n 1, 1) := by decide +kernel
theorem dX8_needs_48 : decode cX8_needs 48 = .ok (.iload 5, 2) := by decide +kernel
theorem dX8_needs_50 : decode cX8_needs 50 = .ok (.invokevirtual 112, 3) := by decide +kernel
theorem dX8_needs_53 : decode cX8_needs 53 = .ok (.lconst 0, 1) := by decide +kernel
theorem dX8_needs_54 : decode cX8_needs 54 = .ok (.lcmp, 1) := by decide +kernel
theorem dX8_needs_55 : decode cX8_needs 55 = .ok (.ifCond .ne 6, 3) := by decide +kernel
theorem dX8_needs_58 : decode cX8_needs 58 = .ok (.iinc 4 1, 3) := by decide +kernel
theorem dX8_needs_61 : decode cX8_needs 61 = .ok (.iload 5, 2) := by decide +kernel
theorem dX8_needs_63 : decode cX8_needs 63 = .ok (.bipush 8, 2) := by decide +kernel
theorem dX8_needs_65 : decode cX8_needs 65 = .ok (.if_icmp .lt 23, 3) := by decide +kernel
theorem dX8_needs_68 : decode cX8_needs 68 = .ok (.iload 6, 2) := by decide +kernel
theorem dX8_needs_70 : decode cX8_needs 70 = .ok (.ifCond .eq 18, 3) := by decide +kernel
theorem dX8_needs_73 : decode cX8_needs 73 = .ok (.aload_n 0, 1) := by decide +kernel
theorem dX8_needs_74 : decode cX8_needs 74 = .ok (.iload_n 1, 1) := by decide +kernel
theorem dX8_needs_75 : decode cX8_needs 75 = .ok (.iload 5, 2) := by decide +kernel
theorem dX8_needs_77 : decode cX8_needs 77 = .ok (.invokevirtual 101, 3) := by decide +kernel
theorem dX8_needs_80 : decode cX8_needs 80 = .ok (.lconst 0, 1) := by decide +kernel
theorem dX8_needs_81 : decode cX8_needs 81 = .ok (.lcmp, 1) := by decide +kernel
theorem dX8_needs_82 : decode cX8_needs 82 = .ok (.ifCond .ne 6, 3) := by decide +kernel
theorem dX8_needs_85 : decode cX8_needs 85 = .ok (.iinc 4 1, 3) := by decide +kernel
theorem dX8_needs_88 : decode cX8_needs 88 = .ok (.iload 5, 2) := by decide +kernel
theorem dX8_needs_90 : decode cX8_needs 90 = .ok (.bipush 40, 2) := by decide +kernel
theorem dX8_needs_92 : decode cX8_needs 92 = .ok (.if_icmp .lt 31, 3) := by decide +kernel
theorem dX8_needs_95 : decode cX8_needs 95 = .ok (.iload 5, 2) := by decide +kernel
theorem dX8_needs_97 : decode cX8_needs 97 = .ok (.iload_n 2, 1) := by decide +kernel
theorem dX8_needs_98 : decode cX8_needs 98 = .ok (.if_icmp .eq 10, 3) := by decide +kernel
theorem dX8_needs_101 : decode cX8_needs 101 = .ok (.iload 5, 2) := by decide +kernel
theorem dX8_needs_103 : decode cX8_needs 103 = .ok (.bipush 40, 2) := by decide +kernel
theorem dX8_needs_105 : decode cX8_needs 105 = .ok (.if_icmp .ne 18, 3) := by decide +kernel
theorem dX8_needs_108 : decode cX8_needs 108 = .ok (.aload_n 0, 1) := by decide +kernel
theorem dX8_needs_109 : decode cX8_needs 109 = .ok (.iload_n 1, 1) := by decide +kernel
theorem dX8_needs_110 : decode cX8_needs 110 = .ok (.bipush 10, 2) := by decide +kernel
theorem dX8_needs_112 : decode cX8_needs 112 = .ok (.invokevirtual 30, 3) := by decide +kernel
theorem dX8_needs_115 : decode cX8_needs 115 = .ok (.lconst 0, 1) := by decide +kernel
theorem dX8_needs_116 : decode cX8_needs 116 = .ok (.lcmp, 1) := by decide +kernel
theorem dX8_needs_117 : decode cX8_needs 117 = .ok (.ifCond .ne 6, 3) := by decide +kernel
theorem dX8_needs_120 : decode cX8_needs 120 = .ok (.iinc 4 1, 3) := by decide +kernel
theorem dX8_needs_123 : decode cX8_needs 123 = .ok (.iinc 5 1, 3) := by decide +kernel
theorem dX8_needs_126 : decode cX8_needs 126 = .ok (.goto (-110), 3) := by decide +kernel
theorem dX8_needs_129 : decode cX8_needs 129 = .ok (.iload 4, 2) := by decide +kernel
theorem dX8_needs_131 : decode cX8_needs 131 = .ok (.ireturn, 1) := by decide +kernel
set_option maxRecDepth 100000 in
set_option maxHeartbeats 1000000 in
theorem j_X8_needs_123 {p : Program} {l : Launch} {e : Env} {s : State} {m : MethodId} {args : Array Value} {below : List Frame} {meth : Method} {c : Code} {D : va_G} {aC : Nat → ClassId} {b0 fu : Nat} {σ0 τ : tM} {v : Int32} {rc16 : Nat → Int32 → Int32 → Int32 → Int32 → Int32 → tM → Option ((Int32) × tM)} (C : tCx p l s m args meth c yX8_needs.cls cX8_needs 7 (some .int) D aC b0 σ0) (htab : ∀ x ∈ c.exceptionTable.toList, False) (hin : meth.name = yX8_needs.name) (hrc16 : ∀ (x0 : Nat) (x1 : Int32) (x2 : Int32) (x3 : Int32) (x4 : Int32) (x5 : Int32) (ρ : tM), rc16 x0 x1 x2 x3 x4 x5 ρ = some (v, τ) → tX p l e s m args below meth c 7 2 47 D aC b0 σ0 (.inl (some (.int v))) τ 16 [(0, .ref (x0)), (1, .int (x1)), (2, .int (x2)), (3, .int (x3)), (4, .int (x4)), (5, .int (x5))] [] ρ) {x0 : Nat} {x1 : Int32} {x2 : Int32} {x3 : Int32} {x4 : Int32} {x5 : Int32} {σ : tM} (hm : J_X8_needs_123 b0 fu rc16 x0 x1 x2 x3 x4 x5 σ = some (v, τ)) : tX p l e s m args below meth c 7 2 47 D aC b0 σ0 (.inl (some (.int v))) τ 123 [(0, .ref (x0)), (1, .int (x1)), (2, .int (x2)), (3, .int (x3)), (4, .int (x4)), (5, .int (x5))] [] σ := by
  unfold J_X8_needs_123 at hm
  obtain ⟨y12, hy12⟩ : ∃ z : Int32, z = (x5) + Int32.ofInt 1 := ⟨_, rfl⟩
  replace hm := ltb_e hm hy12
  refine zx_iinc C [(5, .int (y12)), (0, .ref (x0)), (1, .int (x1)), (2, .int (x2)), (3, .int (x3)), (4, .int (x4))] dX8_needs_123 5 rfl hy12.symm (by decide) rfl ?_
  refine zx_goto C 16 dX8_needs_126 (by decide) ?_
  exact zx_lv [1, 2, 3, 4, 5, 0] [(0, .ref (x0)), (1, .int (x1)), (2, .int (x2)), (3, .int (x3)), (4, .int (x4)), (5, .int (y12))] rfl (hrc16 _ _ _ _ _ _ _ hm)
set_option maxRecDepth 100000 in
set_option maxHeartbeats 1000000 in
theorem j_X8_needs_108 {p : Program} {l : Launch} {e : Env} {s : State} {m : MethodId} {args : Array Value} {below : List Frame} {meth : Method} {c : Code} {D : va_G} {aC : Nat → ClassId} {b0 fu : Nat} {σ0 τ : tM} {v : Int32} {rc16 : Nat → Int32 → Int32 → Int32 → Int32 → Int32 → tM → Option ((Int32) × tM)} (C : tCx p l s m args meth c yX8_needs.cls cX8_needs 7 (some .int) D aC b0 σ0) (htab : ∀ x ∈ c.exceptionTable.toList, False) (hin : meth.name = yX8_needs.name) (hrc16 : ∀ (x0 : Nat) (x1 : Int32) (x2 : Int32) (x3 : Int32) (x4 : Int32) (x5 : Int32) (ρ : tM), rc16 x0 x1 x2 x3 x4 x5 ρ = some (v, τ) → tX p l e s m args below meth c 7 2 47 D aC b0 σ0 (.inl (some (.int v))) τ 16 [(0, .ref (x0)), (1, .int (x1)), (2, .int (x2)), (3, .int (x3)), (4, .int (x4)), (5, .int (x5))] [] ρ) {x0 : Nat} {x1 : Int32} {x2 : Int32} {x3 : Int32} {x4 : Int32} {x5 : Int32} {σ : tM} (hm : J_X8_needs_108 b0 fu rc16 x0 x1 x2 x3 x4 x5 σ = some (v, τ)) : tX p l e s m args below meth c 7 2 47 D aC b0 σ0 (.inl (some (.int v))) τ 108 [(0, .ref (x0)), (1, .int (x1)), (2, .int (x2)), (3, .int (x3)), (4, .int (x4)), (5, .int (x5))] [] σ := by
  unfold J_X8_needs_108 at hm
  refine zx_aload_n C dX8_needs_108 0 rfl ?_
  refine zx_iload_n C dX8_needs_109 1 rfl ?_
  refine zx_bipush (v := 10) C dX8_needs_110 (by decide) ?_
  obtain ⟨k14, i15, hm⟩ := ckO_e hm
  obtain ⟨v16, ρ17, h18, hm⟩ := cll_e hm
  refine zx_callV (σ := σ) C [.int (x1), .int (10)] tC_8 k14 i15 Y_X8_nodeWord W_3_83 W_3_84 W_3_85 (c_X8_nodeWord h18) (by decide) (by decide) rfl (Nat.le_of_ble_eq_true rfl) dX8_needs_112 rfl ?_
  refine zx_lconst (v := 0) C dX8_needs_115 (by decide) ?_
  refine zx_lcmp C dX8_needs_116 ?_
  refine zx_if_ne C 123 dX8_needs_117 (by decide) (fun c19 => ?_) (fun c19 => ?_)
  · replace hm := in_e hm c19
    exact zx_lv [0, 1, 2, 3, 4, 5] [(0, .ref (x0)), (1, .int (x1)), (2, .int (x2)), (3, .int (x3)), (4, .int (x4)), (5, .int (x5))] rfl (j_X8_needs_123 C htab hin hrc16   hm)
  · replace hm := ip_e hm c19
    obtain ⟨y20, hy20⟩ : ∃ z : Int32, z = (x4) + Int32.ofInt 1 := ⟨_, rfl⟩
    replace hm := ltb_e hm hy20
    refine zx_iinc C [(4, .int (y20)), (0, .ref (x0)), (1, .int (x1)), (2, .int (x2)), (3, .int (x3)), (5, .int (x5))] dX8_needs_120 4 rfl hy20.symm (by decide) rfl ?_
    exact zx_lv [1, 2, 3, 4, 0, 5] [(0, .ref (x0)), (1, .int (x1)), (2, .int (x2)), (3, .int (x3)), (4, .int (y20)), (5, .int (x5))] rfl (j_X8_needs_123 C htab hin hrc16   hm)
set_option maxRecDepth 100000 in
set_option maxHeartbeats 1000000 in
theorem j_X8_needs_88 {p : Program} {l : Launch} {e : Env} {s : State} {m : MethodId} {args : Array Value} {below : List Frame} {meth : Method} {c : Code} {D : va_G} {aC : Nat → ClassId} {b0 fu : Nat} {σ0 τ : tM} {v : Int32} {rc16 : Nat → Int32 → Int32 → Int32 → Int32 → Int32 → tM → Option ((Int32) × tM)} (C : tCx p l s m args meth c yX8_needs.cls cX8_needs 7 (some .int) D aC b0 σ0) (htab : ∀ x ∈ c.exceptionTable.toList, False) (hin : meth.name = yX8_needs.name) (hrc16 : ∀ (x0 : Nat) (x1 : Int32) (x2 : Int32) (x3 : Int32) (x4 : Int32) (x5 : Int32) (ρ : tM), rc16 x0 x1 x2 x3 x4 x5 ρ = some (v, τ) → tX p l e s m args below meth c 7 2 47 D aC b0 σ0 (.inl (some (.int v))) τ 16 [(0, .ref (x0)), (1, .int (x1)), (2, .int (x2)), (3, .int (x3)), (4, .int (x4)), (5, .int (x5))] [] ρ) {x0 : Nat} {x1 : Int32} {x2 : Int32} {x3 : Int32} {x4 : Int32} {x5 : Int32} {σ : tM} (hm : J_X8_needs_88 b0 fu rc16 x0 x1 x2 x3 x4 x5 σ = some (v, τ)) : tX p l e s m args below meth c 7 2 47 D aC b0 σ0 (.inl (some (.int v))) τ 88 [(0, .ref (x0)), (1, .int (x1)), (2, .int (x2)), (3, .int (x3)), (4, .int (x4)), (5, .int (x5))] [] σ := by
  unfold J_X8_needs_88 at hm
  refine zx_iload C dX8_needs_88 5 rfl ?_
  refine zx_bipush (v := 40) C dX8_needs_90 (by decide) ?_
  refine zx_icmp_lt C 123 dX8_needs_92 (by decide) (fun c11 => ?_) (fun c11 => ?_)
  · replace hm := ip_e hm c11
    exact zx_lv [0, 1, 2, 3, 4, 5] [(0, .ref (x0)), (1, .int (x1)), (2, .int (x2)), (3, .int (x3)), (4, .int (x4)), (5, .int (x5))] rfl (j_X8_needs_123 C htab hin hrc16   hm)
  · replace hm := in_e hm c11
    refine zx_iload C dX8_needs_95 5 rfl ?_
    refine zx_iload_n C dX8_needs_97 2 rfl ?_
    refine zx_icmp_eq C 108 dX8_needs_98 (by decide) (fun c13 => ?_) (fun c13 => ?_)
    · replace hm := ip_e hm c13
      exact zx_lv [0, 1, 2, 3, 4, 5] [(0, .ref (x0)), (1, .int (x1)), (2, .int (x2)), (3, .int (x3)), (4, .int (x4)), (5, .int (x5))] rfl (j_X8_needs_108 C htab hin hrc16   hm)
    · replace hm := in_e hm c13
      refine zx_iload C dX8_needs_101 5 rfl ?_
      refine zx_bipush (v := 40) C dX8_needs_103 (by decide) ?_
      refine zx_icmp_ne C 123 dX8_needs_105 (by decide) (fun c21 => ?_) (fun c21 => ?_)
      · replace hm := in_e hm c21
        exact zx_lv [0, 1, 2, 3, 4, 5] [(0, .ref (x0)), (1, .int (x1)), (2, .int (x2)), (3, .int (x3)), (4, .int (x4)), (5, .int (x5))] rfl (j_X8_needs_123 C htab hin hrc16   hm)
      · replace hm := ip_e hm c21
        exact zx_lv [0, 1, 2, 3, 4, 5] [(0, .ref (x0)), (1, .int (x1)), (2, .int (x2)), (3, .int (x3)), (4, .int (x4)), (5, .int (x5))] rfl (j_X8_needs_108 C htab hin hrc16   hm)
set_option maxRecDepth 100000 in
set_option maxHeartbeats 1000000 in
theorem j_X8_needs_61 {p : Program} {l : Launch} {e : Env} {s : State} {m : MethodId} {args : Array Value} {below : List Frame} {meth : Method} {c : Code} {D : va_G} {aC : Nat → ClassId} {b0 fu : Nat} {σ0 τ : tM} {v : Int32} {rc16 : Nat → Int32 → Int32 → Int32 → Int32 → Int32 → tM → Option ((Int32) × tM)} (C : tCx p l s m args meth c yX8_needs.cls cX8_needs 7 (some .int) D aC b0 σ0) (htab : ∀ x ∈ c.exceptionTable.toList, False) (hin : meth.name = yX8_needs.name) (hrc16 : ∀ (x0 : Nat) (x1 : Int32) (x2 : Int32) (x3 : Int32) (x4 : Int32) (x5 : Int32) (ρ : tM), rc16 x0 x1 x2 x3 x4 x5 ρ = some (v, τ) → tX p l e s m args below meth c 7 2 47 D aC b0 σ0 (.inl (some (.int v))) τ 16 [(0, .ref (x0)), (1, .int (x1)), (2, .int (x2)), (3, .int (x3)), (4, .int (x4)), (5, .int (x5))] [] ρ) {x0 : Nat} {x1 : Int32} {x2 : Int32} {x3 : Int32} {x4 : Int32} {x5 : Int32} {x6 : Int32} {σ : tM} (hm : J_X8_needs_61 b0 fu rc16 x0 x1 x2 x3 x4 x5 x6 σ = some (v, τ)) : tX p l e s m args below meth c 7 2 47 D aC b0 σ0 (.inl (some (.int v))) τ 61 [(0, .ref (x0)), (1, .int (x1)), (2, .int (x2)), (3, .int (x3)), (4, .int (x4)), (5, .int (x5)), (6, .int (x6))] [] σ := by
  unfold J_X8_needs_61 at hm
  refine zx_iload C dX8_needs_61 5 rfl ?_
  refine zx_bipush (v := 8) C dX8_needs_63 (by decide) ?_
  refine zx_icmp_lt C 88 dX8_needs_65 (by decide) (fun c10 => ?_) (fun c10 => ?_)
  · replace hm := ip_e hm c10
    exact zx_lv [0, 1, 2, 3, 4, 5] [(0, .ref (x0)), (1, .int (x1)), (2, .int (x2)), (3, .int (x3)), (4, .int (x4)), (5, .int (x5))] rfl (j_X8_needs_88 C htab hin hrc16   hm)
  · replace hm := in_e hm c10
    refine zx_iload C dX8_needs_68 6 rfl ?_
    refine zx_if_eq C 88 dX8_needs_70 (by decide) (fun c22 => ?_) (fun c22 => ?_)
    · replace hm := ip_e hm c22
      exact zx_lv [0, 1, 2, 3, 4, 5] [(0, .ref (x0)), (1, .int (x1)), (2, .int (x2)), (3, .int (x3)), (4, .int (x4)), (5, .int (x5))] rfl (j_X8_needs_88 C htab hin hrc16   hm)
    · replace hm := in_e hm c22
      refine zx_aload_n C dX8_needs_73 0 rfl ?_
      refine zx_iload_n C dX8_needs_74 1 rfl ?_
      refine zx_iload C dX8_needs_75 5 rfl ?_
      obtain ⟨k23, i24, hm⟩ := ckO_e hm
      obtain ⟨v25, ρ26, h27, hm⟩ := cll_e hm
      refine zx_callV (σ := σ) C [.int (x1), .int (x5)] tC_8 k23 i24 Y_X8_table W_4_113 W_4_115 Wp_25 (c_X8_table h27) (by decide) (by decide) rfl (Nat.le_of_ble_eq_true rfl) dX8_needs_77 rfl ?_
      refine zx_lconst (v := 0) C dX8_needs_80 (by decide) ?_
      refine zx_lcmp C dX8_needs_81 ?_
      refine zx_if_ne C 88 dX8_needs_82 (by decide) (fun c28 => ?_) (fun c28 => ?_)
      · replace hm := in_e hm c28
        exact zx_lv [0, 1, 2, 3, 4, 5] [(0, .ref (x0)), (1, .int (x1)), (2, .int (x2)), (3, .int (x3)), (4, .int (x4)), (5, .int (x5))] rfl (j_X8_needs_88 C htab hin hrc16   hm)
      · replace hm := ip_e hm c28
        obtain ⟨y29, hy29⟩ : ∃ z : Int32, z = (x4) + Int32.ofInt 1 := ⟨_, rfl⟩
        replace hm := ltb_e hm hy29
        refine zx_iinc C [(4, .int (y29)), (0, .ref (x0)), (1, .int (x1)), (2, .int (x2)), (3, .int (x3)), (5, .int (x5)), (6, .int (x6))] dX8_needs_85 4 rfl hy29.symm (by decide) rfl ?_
        exact zx_lv [1, 2, 3, 4, 0, 5] [(0, .ref (x0)), (1, .int (x1)), (2, .int (x2)), (3, .int (x3)), (4, .int (y29)), (5, .int (x5))] rfl (j_X8_needs_88 C htab hin hrc16   hm)
set_option maxRecDepth 100000 in
set_option maxHeartbeats 1000000 in
theorem j_X8_needs_44 {p : Program} {l : Launch} {e : Env} {s : State} {m : MethodId} {args : Array Value} {below : List Frame} {meth : Method} {c : Code} {D : va_G} {aC : Nat → ClassId} {b0 fu : Nat} {σ0 τ : tM} {v : Int32} {rc16 : Nat → Int32 → Int32 → Int32 → Int32 → Int32 → tM → Option ((Int32) × tM)} (C : tCx p l s m args meth c yX8_needs.cls cX8_needs 7 (some .int) D aC b0 σ0) (htab : ∀ x ∈ c.exceptionTable.toList, False) (hin : meth.name = yX8_needs.name) (hrc16 : ∀ (x0 : Nat) (x1 : Int32) (x2 : Int32) (x3 : Int32) (x4 : Int32) (x5 : Int32) (ρ : tM), rc16 x0 x1 x2 x3 x4 x5 ρ = some (v, τ) → tX p l e s m args below meth c 7 2 47 D aC b0 σ0 (.inl (some (.int v))) τ 16 [(0, .ref (x0)), (1, .int (x1)), (2, .int (x2)), (3, .int (x3)), (4, .int (x4)), (5, .int (x5))] [] ρ) {x0 : Nat} {x1 : Int32} {x2 : Int32} {x3 : Int32} {x4 : Int32} {x5 : Int32} {s0 : Int32} {σ : tM} (hm : J_X8_needs_44 b0 fu rc16 x0 x1 x2 x3 x4 x5 s0 σ = some (v, τ)) : tX p l e s m args below meth c 7 2 47 D aC b0 σ0 (.inl (some (.int v))) τ 44 [(0, .ref (x0)), (1, .int (x1)), (2, .int (x2)), (3, .int (x3)), (4, .int (x4)), (5, .int (x5))] [.int (s0)] σ := by
  unfold J_X8_needs_44 at hm
  refine zx_istore C [(6, .int (s0)), (0, .ref (x0)), (1, .int (x1)), (2, .int (x2)), (3, .int (x3)), (4, .int (x4)), (5, .int (x5))] dX8_needs_44 (by decide) rfl ?_
  refine zx_aload_n C dX8_needs_46 1 rfl ?_
  refine zx_iload_n C dX8_needs_47 2 rfl ?_
  refine zx_iload C dX8_needs_48 6 rfl ?_
  obtain ⟨k4, i5, hm⟩ := ckO_e hm
  obtain ⟨v6, ρ7, h8, hm⟩ := cll_e hm
  refine zx_callV (σ := σ) C [.int (x1), .int (x5)] tC_8 k4 i5 Y_X8_pointer W_4_109 W_4_110 W_4_111 (c_X8_pointer h8) (by decide) (by decide) rfl (Nat.le_of_ble_eq_true rfl) dX8_needs_50 rfl ?_
  refine zx_lconst (v := 0) C dX8_needs_53 (by decide) ?_
  refine zx_lcmp C dX8_needs_54 ?_
  refine zx_if_ne C 61 dX8_needs_55 (by decide) (fun c9 => ?_) (fun c9 => ?_)
  · replace hm := in_e hm c9
    exact zx_lv [1, 2, 3, 4, 5, 6, 0] [(0, .ref (x0)), (1, .int (x1)), (2, .int (x2)), (3, .int (x3)), (4, .int (x4)), (5, .int (x5)), (6, .int (s0))] rfl (j_X8_needs_61 C htab hin hrc16   hm)
  · replace hm := ip_e hm c9
    obtain ⟨y30, hy30⟩ : ∃ z : Int32, z = (x4) + Int32.ofInt 1 := ⟨_, rfl⟩
    replace hm := ltb_e hm hy30
    refine zx_iinc C [(4, .int (y30)), (6, .int (s0)), (0, .ref (x0)), (1, .int (x1)), (2, .int (x2)), (3, .int (x3)), (5, .int (x5))] dX8_needs_58 5 rfl hy30.symm (by decide) rfl ?_
    exact zx_lv [2, 3, 4, 5, 0, 6, 1] [(0, .ref (x0)), (1, .int (x1)), (2, .int (x2)), (3, .int (x3)), (4, .int (y30)), (5, .int (x5)), (6, .int (s0))] rfl (j_X8_needs_61 C htab hin hrc16   hm)
set_option maxRecDepth 100000 in
set_option maxHeartbeats 1000000 in
theorem j_X8_needs_39 {p : Program} {l : Launch} {e : Env} {s : State} {m : MethodId} {args : Array Value} {below : List Frame} {meth : Method} {c : Code} {D : va_G} {aC : Nat → ClassId} {b0 fu : Nat} {σ0 τ : tM} {v : Int32} {rc16 : Nat → Int32 → Int32 → Int32 → Int32 → Int32 → tM → Option ((Int32) × tM)} (C : tCx p l s m args meth c yX8_needs.cls cX8_needs 7 (some .int) D aC b0 σ0) (htab : ∀ x ∈ c.exceptionTable.toList, False) (hin : meth.name = yX8_needs.name) (hrc16 : ∀ (x0 : Nat) (x1 : Int32) (x2 : Int32) (x3 : Int32) (x4 : Int32) (x5 : Int32) (ρ : tM), rc16 x0 x1 x2 x3 x4 x5 ρ = some (v, τ) → tX p l e s m args below meth c 7 2 47 D aC b0 σ0 (.inl (some (.int v))) τ 16 [(0, .ref (x0)), (1, .int (x1)), (2, .int (x2)), (3, .int (x3)), (4, .int (x4)), (5, .int (x5))] [] ρ) {x0 : Nat} {x1 : Int32} {x2 : Int32} {x3 : Int32} {x4 : Int32} {x5 : Int32} {σ : tM} (hm : J_X8_needs_39 b0 fu rc16 x0 x1 x2 x3 x4 x5 σ = some (v, τ)) : tX p l e s m args below meth c 7 2 47 D aC b0 σ0 (.inl (some (.int v))) τ 39 [(0, .ref (x0)), (1, .int (x1)), (2, .int (x2)), (3, .int (x3)), (4, .int (x4)), (5, .int (x5))] [] σ := by
  unfold J_X8_needs_39 at hm
  refine zx_iconst (v := 1) C dX8_needs_39 (by decide) ?_
  refine zx_goto C 44 dX8_needs_40 (by decide) ?_
  exact zx_lv [0, 1, 2, 3, 4, 5] [(0, .ref (x0)), (1, .int (x1)), (2, .int (x2)), (3, .int (x3)), (4, .int (x4)), (5, .int (x5))] rfl (j_X8_needs_44 C htab hin hrc16   hm)
set_option maxRecDepth 100000 in
set_option maxHeartbeats 1000000 in
theorem l_X8_needs_16 {p : Program} {l : Launch} {e : Env} {s : State} {m : MethodId} {args : Array Value} {below : List Frame} {meth : Method} {c : Code} {D : va_G} {aC : Nat → ClassId} {b0 fu : Nat} {σ0 τ : tM} {v : Int32}  (C : tCx p l s m args meth c yX8_needs.cls cX8_needs 7 (some .int) D aC b0 σ0) (htab : ∀ x ∈ c.exceptionTable.toList, False) (hin : meth.name = yX8_needs.name)  : ∀ (n : Nat) (x0 : Nat) (x1 : Int32) (x2 : Int32) (x3 : Int32) (x4 : Int32) (x5 : Int32) (σ : tM), L_X8_needs_16 b0 fu  n x0 x1 x2 x3 x4 x5 σ = some (v, τ) → tX p l e s m args below meth c 7 2 47 D aC b0 σ0 (.inl (some (.int v))) τ 16 [(0, .ref (x0)), (1, .int (x1)), (2, .int (x2)), (3, .int (x3)), (4, .int (x4)), (5, .int (x5))] [] σ := by
  intro n
  induction n with
  | zero => intro x0 x1 x2 x3 x4 x5 σ hm; unfold L_X8_needs_16 at hm; cases hm
  | succ n ih =>
    intro x0 x1 x2 x3 x4 x5 σ hm
    unfold L_X8_needs_16 at hm
    obtain ⟨rc16, hrc⟩ : ∃ z, z = L_X8_needs_16 b0 fu  n := ⟨_, rfl⟩
    replace hm := ltb_e hm hrc
    rw [← hrc] at ih
    have hrc16 := ih
    clear ih hrc
    refine zx_iload C dX8_needs_16 5 rfl ?_
    refine zx_iload_n C dX8_needs_18 3 rfl ?_
    refine zx_icmp_gt C 129 dX8_needs_19 (by decide) (fun c2 => ?_) (fun c2 => ?_)
    · replace hm := ip_e hm c2
      refine zx_iload C dX8_needs_129 4 rfl ?_
      obtain ⟨rfl, rfl⟩ := ret_e hm
      exact zx_iret C rfl rfl rfl dX8_needs_131
    · replace hm := in_e hm c2
      refine zx_iload C dX8_needs_22 5 rfl ?_
      refine zx_iload_n C dX8_needs_24 2 rfl ?_
      refine zx_icmp_eq C 39 dX8_needs_25 (by decide) (fun c3 => ?_) (fun c3 => ?_)
      · replace hm := ip_e hm c3
        exact zx_lv [0, 1, 2, 3, 4, 5] [(0, .ref (x0)), (1, .int (x1)), (2, .int (x2)), (3, .int (x3)), (4, .int (x4)), (5, .int (x5))] rfl (j_X8_needs_39 C htab hin hrc16   hm)
      · replace hm := in_e hm c3
        refine zx_iload C dX8_needs_28 5 rfl ?_
        refine zx_bipush (v := 8) C dX8_needs_30 (by decide) ?_
        refine zx_isub C dX8_needs_32 ?_
        refine zx_bipush (v := 32) C dX8_needs_33 (by decide) ?_
        refine zx_irem C dX8_needs_35 (by decide) ?_
        refine zx_if_ne C 43 dX8_needs_36 (by decide) (fun c31 => ?_) (fun c31 => ?_)
        · replace hm := in_e hm c31
          refine zx_iconst (v := 0) C dX8_needs_43 (by decide) ?_
          exact zx_lv [0, 1, 2, 3, 4, 5] [(0, .ref (x0)), (1, .int (x1)), (2, .int (x2)), (3, .int (x3)), (4, .int (x4)), (5, .int (x5))] rfl (j_X8_needs_44 C htab hin hrc16   hm)
        · replace hm := ip_e hm c31
          exact zx_lv [0, 1, 2, 3, 4, 5] [(0, .ref (x0)), (1, .int (x1)), (2, .int (x2)), (3, .int (x3)), (4, .int (x4)), (5, .int (x5))] rfl (j_X8_needs_39 C htab hin hrc16   hm)
set_option maxRecDepth 100000 in
set_option maxHeartbeats 1000000 in
theorem c_X8_needs {l : Launch} {D : va_G} {aC : Nat → ClassId} {b0 fu : Nat} {a0 : Nat} {p0 : Int32} {p1 : Int32} {p2 : Int32} {σ τ : tM} {v : Int32} (hm : m_X8_needs b0 fu a0 p0 p1 p2 σ = some (v, τ)) : tMt l D aC b0 yX8_needs (Cond.code yX8_needs cX8_needs 7 (some .int)) 2 47 [.ref (a0), .int (p0), .int (p1), .int (p2)] σ (.inl (some (.int v))) τ := by
  unfold m_X8_needs at hm
  obtain ⟨hg, hm⟩ := grw_e hm
  refine tMt_of (n := 0) rfl (Nat.le_of_ble_eq_true rfl) hg ?_
  intro p e s m below meth c C htab hin
  refine zx_lv [0, 1, 2, 3] [(0, .ref (a0)), (1, .int (p0)), (2, .int (p1)), (3, .int (p2))] rfl ?_
  refine zx_iload_n C dX8_needs_0 3 rfl ?_
  refine zx_sipush (v := 1064) C dX8_needs_1 (by decide) ?_
  refine zx_icmp_lt C 10 dX8_needs_4 (by decide) (fun c1 => ?_) (fun c1 => ?_)
  · replace hm := ip_e hm c1
    refine zx_iconst (v := 0) C dX8_needs_10 (by decide) ?_
    refine zx_istore C [(4, .int (0)), (0, .ref (a0)), (1, .int (p0)), (2, .int (p1)), (3, .int (p2))] dX8_needs_11 (by decide) rfl ?_
    refine zx_iload_n C dX8_needs_13 3 rfl ?_
    refine zx_istore C [(5, .int (p1)), (4, .int (0)), (0, .ref (a0)), (1, .int (p0)), (2, .int (p1)), (3, .int (p2))] dX8_needs_14 (by decide) rfl ?_
    exact zx_lv [2, 3, 4, 5, 1, 0] [(0, .ref (a0)), (1, .int (p0)), (2, .int (p1)), (3, .int (p2)), (4, .int (0)), (5, .int (p1))] rfl (l_X8_needs_16 C htab hin  _ _ _ _ _ _ _ _ hm)
  · replace hm := in_e hm c1
    refine zx_ldc (v := 1000000) C W_4_174 dX8_needs_7 ?_
    obtain ⟨rfl, rfl⟩ := ret_e hm
    exact zx_iret C rfl rfl rfl dX8_needs_9
abbrev cX8_zeroBehind : ByteArray := prog_10_method_33_code
def yX8_zeroBehind : MethodName := ⟨"SyncTree$Tree", "zeroBehind", "(II)V"⟩
theorem Y_X8_zeroBehind : tY yX8_zeroBehind cX8_zeroBehind 5 none 2 := ⟨W_5_73, W_1_4, ⟨by decide +kernel, by decide +kernel⟩, by decide +kernel⟩
theorem dX8_zeroBehind_0 : decode cX8_zeroBehind 0 = .ok (.aload_n 0, 1) := by decide +kernel
theorem dX8_zeroBehind_1 : decode cX8_zeroBehind 1 = .ok (.iload_n 1, 1) := by decide +kernel
theorem dX8_zeroBehind_2 : decode cX8_zeroBehind 2 = .ok (.iload_n 2, 1) := by decide +kernel
theorem dX8_zeroBehind_3 : decode cX8_zeroBehind 3 = .ok (.sipush 256, 3) := by decide +kernel
theorem dX8_zeroBehind_6 : decode cX8_zeroBehind 6 = .ok (.idiv, 1) := by decide +kernel
theorem dX8_zeroBehind_7 : decode cX8_zeroBehind 7 = .ok (.invokevirtual 112, 3) := by decide +kernel
theorem dX8_zeroBehind_10 : decode cX8_zeroBehind 10 = .ok (.invokestatic 104, 3) := by decide +kernel
theorem dX8_zeroBehind_13 : decode cX8_zeroBehind 13 = .ok (.istore_n 3, 1) := by decide +kernel
theorem dX8_zeroBehind_14 : decode cX8_zeroBehind 14 = .ok (.iload_n 2, 1) := by decide +kernel
theorem dX8_zeroBehind_15 : decode cX8_zeroBehind 15 = .ok (.sipush 256, 3) := by decide +kernel
theorem dX8_zeroBehind_18 : decode cX8_zeroBehind 18 = .ok (.irem, 1) := by decide +kernel
theorem dX8_zeroBehind_19 : decode cX8_zeroBehind 19 = .ok (.istore 4, 2) := by decide +kernel
theorem dX8_zeroBehind_21 : decode cX8_zeroBehind 21 = .ok (.iload_n 3, 1) := by decide +kernel
theorem dX8_zeroBehind_22 : decode cX8_zeroBehind 22 = .ok (.ifCond .eq 38, 3) := by decide +kernel
theorem dX8_zeroBehind_25 : decode cX8_zeroBehind 25 = .ok (.aload_n 0, 1) := by decide +kernel
theorem dX8_zeroBehind_26 : decode cX8_zeroBehind 26 = .ok (.getfield 15, 3) := by decide +kernel
theorem dX8_zeroBehind_29 : decode cX8_zeroBehind 29 = .ok (.iload_n 3, 1) := by decide +kernel
theorem dX8_zeroBehind_30 : decode cX8_zeroBehind 30 = .ok (.iload 4, 2) := by decide +kernel
theorem dX8_zeroBehind_32 : decode cX8_zeroBehind 32 = .ok (.invokevirtual 126, 3) := by decide +kernel
theorem dX8_zeroBehind_35 : decode cX8_zeroBehind 35 = .ok (.ifCond .ne 25, 3) := by decide +kernel
theorem dX8_zeroBehind_38 : decode cX8_zeroBehind 38 = .ok (.aload_n 0, 1) := by decide +kernel
theorem dX8_zeroBehind_39 : decode cX8_zeroBehind 39 = .ok (.getfield 15, 3) := by decide +kernel
theorem dX8_zeroBehind_42 : decode cX8_zeroBehind 42 = .ok (.iload_n 3, 1) := by decide +kernel
theorem dX8_zeroBehind_43 : decode cX8_zeroBehind 43 = .ok (.iload 4, 2) := by decide +kernel
theorem dX8_zeroBehind_45 : decode cX8_zeroBehind 45 = .ok (.sipush 256, 3) := by decide +kernel
theorem dX8_zeroBehind_48 : decode cX8_zeroBehind 48 = .ok (.iconst 0, 1) := by decide +kernel
theorem dX8_zeroBehind_49 : decode cX8_zeroBehind 49 = .ok (.invokevirtual 139, 3) := by decide +kernel
theorem dX8_zeroBehind_52 : decode cX8_zeroBehind 52 = .ok (.aload_n 0, 1) := by decide +kernel
theorem dX8_zeroBehind_53 : decode cX8_zeroBehind 53 = .ok (.getfield 15, 3) := by decide +kernel
theorem dX8_zeroBehind_56 : decode cX8_zeroBehind 56 = .ok (.iload_n 3, 1) := by decide +kernel
theorem dX8_zeroBehind_57 : decode cX8_zeroBehind 57 = .ok (.invokevirtual 143, 3) := by decide +kernel
theorem dX8_zeroBehind_60 : decode cX8_zeroBehind 60 = .ok (.return_, 1) := by decide +kernel
set_option maxRecDepth 100000 in
set_option maxHeartbeats 1000000 in
theorem j_X8_zeroBehind_60 {p : Program} {l : Launch} {e : Env} {s : State} {m : MethodId} {args : Array Value} {below : List Frame} {meth : Method} {c : Code} {D : va_G} {aC : Nat → ClassId} {b0 fu : Nat} {σ0 τ : tM} {v : Unit}  (C : tCx p l s m args meth c yX8_zeroBehind.cls cX8_zeroBehind 5 none D aC b0 σ0) (htab : ∀ x ∈ c.exceptionTable.toList, False) (hin : meth.name = yX8_zeroBehind.name)   {σ : tM} (hm : J_X8_zeroBehind_60 b0 fu   σ = some (v, τ)) : tX p l e s m args below meth c 5 2 53 D aC b0 σ0 (.inl none) τ 60 [] [] σ := by
  unfold J_X8_zeroBehind_60 at hm
  obtain ⟨rfl, rfl⟩ := ret_e hm
  exact zx_vret C rfl rfl rfl dX8_zeroBehind_60
set_option maxRecDepth 100000 in
set_option maxHeartbeats 1000000 in
theorem c_X8_zeroBehind {l : Launch} {D : va_G} {aC : Nat → ClassId} {b0 fu : Nat} {a0 : Nat} {p0 : Int32} {p1 : Int32} {σ τ : tM} {v : Unit} (hm : m_X8_zeroBehind b0 fu a0 p0 p1 σ = some (v, τ)) : tMt l D aC b0 yX8_zeroBehind (Cond.code yX8_zeroBehind cX8_zeroBehind 5 none) 2 53 [.ref (a0), .int (p0), .int (p1)] σ (.inl none) τ := by
  unfold m_X8_zeroBehind at hm
  obtain ⟨hg, hm⟩ := grw_e hm
  refine tMt_of (n := 0) rfl (Nat.le_of_ble_eq_true rfl) hg ?_
  intro p e s m below meth c C htab hin
  refine zx_lv [0, 1, 2] [(0, .ref (a0)), (1, .int (p0)), (2, .int (p1))] rfl ?_
  refine zx_aload_n C dX8_zeroBehind_0 0 rfl ?_
  refine zx_iload_n C dX8_zeroBehind_1 1 rfl ?_
  refine zx_iload_n C dX8_zeroBehind_2 2 rfl ?_
  refine zx_sipush (v := 256) C dX8_zeroBehind_3 (by decide) ?_
  refine zx_idiv C dX8_zeroBehind_6 (by decide) ?_
  obtain ⟨k1, i2, hm⟩ := ckO_e hm
  obtain ⟨v3, ρ4, h5, hm⟩ := cll_e hm
  refine zx_callV (σ := σ) C [.int (p0), .int ((p1) / (256))] tC_8 k1 i2 Y_X8_pointer W_4_109 W_4_110 W_4_111 (c_X8_pointer h5) (by decide) (by decide) rfl (Nat.le_of_ble_eq_true rfl) dX8_zeroBehind_7 rfl ?_
  obtain ⟨v6, ρ7, h8, hm⟩ := cll_e hm
  refine zx_callS (σ := ρ4) C [.long (v3)] Y_X8_cellOf W_4_117 W_4_118 (c_X8_cellOf h8) (by decide) (by decide) rfl (Nat.le_of_ble_eq_true rfl) dX8_zeroBehind_10 rfl ?_
  refine zx_istore_n C [(3, .int (v6)), (0, .ref (a0)), (1, .int (p0)), (2, .int (p1))] dX8_zeroBehind_13 rfl (by decide) rfl ?_
  refine zx_iload_n C dX8_zeroBehind_14 3 rfl ?_
  refine zx_sipush (v := 256) C dX8_zeroBehind_15 (by decide) ?_
  refine zx_irem C dX8_zeroBehind_18 (by decide) ?_
  refine zx_topi (fun y9 hy9 => ?_)
  replace hm := ltb_e hm hy9
  refine zx_istore C [(4, .int (y9)), (3, .int (v6)), (0, .ref (a0)), (1, .int (p0)), (2, .int (p1))] dX8_zeroBehind_19 (by decide) rfl ?_
  refine zx_iload_n C dX8_zeroBehind_21 1 rfl ?_
  refine zx_if_eq C 60 dX8_zeroBehind_22 (by decide) (fun c10 => ?_) (fun c10 => ?_)
  · replace hm := ip_e hm c10
    exact zx_lv [] [] rfl (j_X8_zeroBehind_60 C htab hin    hm)
  · replace hm := in_e hm c10
    refine zx_aload_n C dX8_zeroBehind_25 2 rfl ?_
    obtain ⟨k11, i12, hm⟩ := ckO_e hm
    obtain ⟨a13, h14, hm⟩ := osm_e hm
    refine zx_get (j := 0) C tC_8 k11 i12 ⟨by decide, Or.inl W_1_163⟩ dX8_zeroBehind_26 (.ref a13) (rf_s h14) ?_
    refine zx_iload_n C dX8_zeroBehind_29 1 rfl ?_
    refine zx_iload C dX8_zeroBehind_30 0 rfl ?_
    obtain ⟨k15, i16, hm⟩ := ckO_e hm
    obtain ⟨v17, ρ18, h19, hm⟩ := cll_e hm
    refine zx_callV (σ := ρ7) C [.int (v6), .int (y9)] tC_5 k15 i16 Y_X5_isZeroFrom W_5_37 W_5_38 W_5_39 (c_X5_isZeroFrom h19) (by decide) (by decide) rfl (Nat.le_of_ble_eq_true rfl) dX8_zeroBehind_32 rfl ?_
    refine zx_if_ne C 60 dX8_zeroBehind_35 (by decide) (fun c20 => ?_) (fun c20 => ?_)
    · replace hm := in_e hm c20
      exact zx_lv [] [] rfl (j_X8_zeroBehind_60 C htab hin    hm)
    · replace hm := ip_e hm c20
      refine zx_aload_n C dX8_zeroBehind_38 2 rfl ?_
      obtain ⟨k21, i22, hm⟩ := ckO_e hm
      obtain ⟨a23, h24, hm⟩ := osm_e hm
      refine zx_get (j := 0) C tC_8 k21 i22 ⟨by decide, Or.inl W_1_163⟩ dX8_zeroBehind_39 (.ref a23) (rf_s h24) ?_
      refine zx_iload_n C dX8_zeroBehind_42 1 rfl ?_
      refine zx_iload C dX8_zeroBehind_43 0 rfl ?_
      refine zx_sipush (v := 256) C dX8_zeroBehind_45 (by decide) ?_
      refine zx_iconst (v := 0) C dX8_zeroBehind_48 (by decide) ?_
      obtain ⟨k25, i26, hm⟩ := ckO_e hm
      obtain ⟨v27, ρ28, h29, hm⟩ := cll_e hm
      refine zx_callV (σ := ρ18) C [.int (v6), .int (y9), .int (256), .int (0)] tC_5 k25 i26 Y_X5_setSpan W_5_74 W_5_75 W_5_76 (c_X5_setSpan h29) (by decide) (by decide) rfl (Nat.le_of_ble_eq_true rfl) dX8_zeroBehind_49 rfl ?_
      refine zx_aload_n C dX8_zeroBehind_52 2 rfl ?_
      obtain ⟨k30, i31, hm⟩ := ckO_e hm
      obtain ⟨a32, h33, hm⟩ := osm_e hm
      refine zx_get (j := 0) C tC_8 k30 i31 ⟨by decide, Or.inl W_1_163⟩ dX8_zeroBehind_53 (.ref a32) (rf_s h33) ?_
      refine zx_iload_n C dX8_zeroBehind_56 1 rfl ?_
      obtain ⟨k34, i35, hm⟩ := ckO_e hm
      obtain ⟨v36, ρ37, h38, hm⟩ := cll_e hm
      refine zx_callV (σ := ρ28) C [.int (v6)] tC_5 k34 i35 Y_X5_soil W_5_80 W_5_81 W_5_82 (c_X5_soil h38) (by decide) (by decide) rfl (Nat.le_of_ble_eq_true rfl) dX8_zeroBehind_57 rfl ?_
      exact zx_lv [] [] rfl (j_X8_zeroBehind_60 C htab hin    hm)
abbrev cX8_storeTape : ByteArray := prog_10_method_34_code
def yX8_storeTape : MethodName := ⟨"SyncTree$Tree", "storeTape", "(IIILSyncTree$Tape;)V"⟩
theorem Y_X8_storeTape : tY yX8_storeTape cX8_storeTape 8 none 4 := ⟨W_5_161, W_1_4, ⟨by decide +kernel, by decide +kernel⟩, by decide +kernel⟩
theorem dX8_storeTape_0 : decode cX8_storeTape 0 = .ok (.aload_n 0, 1) := by decide +kernel
theorem dX8_storeTape_1 : decode cX8_storeTape 1 = .ok (.iload_n 1, 1) := by decide +kernel
theorem dX8_storeTape_2 : decode cX8_storeTape 2 = .ok (.iload_n 2, 1) := by decide +kernel
theorem dX8_storeTape_3 : decode cX8_storeTape 3 = .ok (.sipush 256, 3) := by decide +kernel
theorem dX8_storeTape_6 : decode cX8_storeTape 6 = .ok (.idiv, 1) := by decide +kernel
theorem dX8_storeTape_7 : decode cX8_storeTape 7 = .ok (.invokevirtual 112, 3) := by decide +kernel
theorem dX8_storeTape_10 : decode cX8_storeTape 10 = .ok (.invokestatic 104, 3) := by decide +kernel
theorem dX8_storeTape_13 : decode cX8_storeTape 13 = .ok (.istore 5, 2) := by decide +kernel
theorem dX8_storeTape_15 : decode cX8_storeTape 15 = .ok (.iconst 0, 1) := by decide +kernel
theorem dX8_storeTape_16 : decode cX8_storeTape 16 = .ok (.istore 6, 2) := by decide +kernel
theorem dX8_storeTape_18 : decode cX8_storeTape 18 = .ok (.iload 6, 2) := by decide +kernel
theorem dX8_storeTape_20 : decode cX8_storeTape 20 = .ok (.iload_n 3, 1) := by decide +kernel
theorem dX8_storeTape_21 : decode cX8_storeTape 21 = .ok (.if_icmp .ge 69, 3) := by decide +kernel
theorem dX8_storeTape_24 : decode cX8_storeTape 24 = .ok (.iload_n 2, 1) := by decide +kernel
theorem dX8_storeTape_25 : decode cX8_storeTape 25 = .ok (.iload 6, 2) := by decide +kernel
theorem dX8_storeTape_27 : decode cX8_storeTape 27 = .ok (.iadd, 1) := by decide +kernel
theorem dX8_storeTape_28 : decode cX8_storeTape 28 = .ok (.sipush 256, 3) := by decide +kernel
theorem dX8_storeTape_31 : decode cX8_storeTape 31 = .ok (.irem, 1) := by decide +kernel
theorem dX8_storeTape_32 : decode cX8_storeTape 32 = .ok (.istore 7, 2) := by decide +kernel
theorem dX8_storeTape_34 : decode cX8_storeTape 34 = .ok (.iload 7, 2) := by decide +kernel
theorem dX8_storeTape_36 : decode cX8_storeTape 36 = .ok (.ifCond .ne 21, 3) := by decide +kernel
theorem dX8_storeTape_39 : decode cX8_storeTape 39 = .ok (.aload_n 0, 1) := by decide +kernel
theorem dX8_storeTape_40 : decode cX8_storeTape 40 = .ok (.iload_n 1, 1) := by decide +kernel
theorem dX8_storeTape_41 : decode cX8_storeTape 41 = .ok (.iload_n 2, 1) := by decide +kernel
theorem dX8_storeTape_42 : decode cX8_storeTape 42 = .ok (.iload 6, 2) := by decide +kernel
theorem dX8_storeTape_44 : decode cX8_storeTape 44 = .ok (.iadd, 1) := by decide +kernel
theorem dX8_storeTape_45 : decode cX8_storeTape 45 = .ok (.sipush 256, 3) := by decide +kernel
theorem dX8_storeTape_48 : decode cX8_storeTape 48 = .ok (.idiv, 1) := by decide +kernel
theorem dX8_storeTape_49 : decode cX8_storeTape 49 = .ok (.invokevirtual 112, 3) := by decide +kernel
theorem dX8_storeTape_52 : decode cX8_storeTape 52 = .ok (.invokestatic 104, 3) := by decide +kernel
theorem dX8_storeTape_55 : decode cX8_storeTape 55 = .ok (.istore 5, 2) := by decide +kernel
theorem dX8_storeTape_57 : decode cX8_storeTape 57 = .ok (.aload_n 0, 1) := by decide +kernel
theorem dX8_storeTape_58 : decode cX8_storeTape 58 = .ok (.getfield 15, 3) := by decide +kernel
theorem dX8_storeTape_61 : decode cX8_storeTape 61 = .ok (.iload 5, 2) := by decide +kernel
theorem dX8_storeTape_63 : decode cX8_storeTape 63 = .ok (.iload 7, 2) := by decide +kernel
theorem dX8_storeTape_65 : decode cX8_storeTape 65 = .ok (.aload 4, 2) := by decide +kernel
theorem dX8_storeTape_67 : decode cX8_storeTape 67 = .ok (.iload 6, 2) := by decide +kernel
theorem dX8_storeTape_69 : decode cX8_storeTape 69 = .ok (.invokevirtual 146, 3) := by decide +kernel
theorem dX8_storeTape_72 : decode cX8_storeTape 72 = .ok (.invokevirtual 79, 3) := by decide +kernel
theorem dX8_storeTape_75 : decode cX8_storeTape 75 = .ok (.aload_n 0, 1) := by decide +kernel
theorem dX8_storeTape_76 : decode cX8_storeTape 76 = .ok (.getfield 15, 3) := by decide +kernel
theorem dX8_storeTape_79 : decode cX8_storeTape 79 = .ok (.iload 5, 2) := by decide +kernel
theorem dX8_storeTape_81 : decode cX8_storeTape 81 = .ok (.invokevirtual 143, 3) := by decide +kernel
theorem dX8_storeTape_84 : decode cX8_storeTape 84 = .ok (.iinc 6 1, 3) := by decide +kernel
theorem dX8_storeTape_87 : decode cX8_storeTape 87 = .ok (.goto (-69), 3) := by decide +kernel
theorem dX8_storeTape_90 : decode cX8_storeTape 90 = .ok (.return_, 1) := by decide +kernel
set_option maxRecDepth 100000 in
set_option maxHeartbeats 1000000 in
theorem j_X8_storeTape_57 {p : Program} {l : Launch} {e : Env} {s : State} {m : MethodId} {args : Array Value} {below : List Frame} {meth : Method} {c : Code} {D : va_G} {aC : Nat → ClassId} {b0 fu : Nat} {σ0 τ : tM} {v : Unit} {rc18 : Nat → Int32 → Int32 → Int32 → Nat → Int32 → Int32 → tM → Option ((Unit) × tM)} (C : tCx p l s m args meth c yX8_storeTape.cls cX8_storeTape 8 none D aC b0 σ0) (htab : ∀ x ∈ c.exceptionTable.toList, False) (hin : meth.name = yX8_storeTape.name) (hrc18 : ∀ (x0 : Nat) (x1 : Int32) (x2 : Int32) (x3 : Int32) (x4 : Nat) (x5 : Int32) (x6 : Int32) (ρ : tM), rc18 x0 x1 x2 x3 x4 x5 x6 ρ = some (v, τ) → tX p l e s m args below meth c 8 2 47 D aC b0 σ0 (.inl none) τ 18 [(0, .ref (x0)), (1, .int (x1)), (2, .int (x2)), (3, .int (x3)), (4, .ref (x4)), (5, .int (x5)), (6, .int (x6))] [] ρ) {x0 : Nat} {x1 : Int32} {x2 : Int32} {x3 : Int32} {x4 : Nat} {x5 : Int32} {x6 : Int32} {x7 : Int32} {σ : tM} (hm : J_X8_storeTape_57 b0 fu rc18 x0 x1 x2 x3 x4 x5 x6 x7 σ = some (v, τ)) : tX p l e s m args below meth c 8 2 47 D aC b0 σ0 (.inl none) τ 57 [(0, .ref (x0)), (1, .int (x1)), (2, .int (x2)), (3, .int (x3)), (4, .ref (x4)), (5, .int (x5)), (6, .int (x6)), (7, .int (x7))] [] σ := by
  unfold J_X8_storeTape_57 at hm
  refine zx_aload_n C dX8_storeTape_57 0 rfl ?_
  obtain ⟨k12, i13, hm⟩ := ckO_e hm
  obtain ⟨a14, h15, hm⟩ := osm_e hm
  refine zx_get (j := 0) C tC_8 k12 i13 ⟨by decide, Or.inl W_1_163⟩ dX8_storeTape_58 (.ref a14) (rf_s h15) ?_
  refine zx_iload C dX8_storeTape_61 5 rfl ?_
  refine zx_iload C dX8_storeTape_63 7 rfl ?_
  refine zx_aload C dX8_storeTape_65 4 rfl ?_
  refine zx_iload C dX8_storeTape_67 6 rfl ?_
  obtain ⟨k16, i17, hm⟩ := ckO_e hm
  obtain ⟨v18, ρ19, h20, hm⟩ := cll_e hm
  refine zx_callV (σ := σ) C [.int (x6)] tC_6 k16 i17 Y_X6_octet W_5_162 W_3_35 W_3_36 (c_X6_octet h20) (by decide) (by decide) rfl (Nat.le_of_ble_eq_true rfl) dX8_storeTape_69 rfl ?_
  obtain ⟨k21, i22, hm⟩ := ckO_e hm
  obtain ⟨v23, ρ24, h25, hm⟩ := cll_e hm
  refine zx_callV (σ := ρ19) C [.int (x5), .int (x7), .int (v18)] tC_5 k21 i22 Y_X5_setOctet W_4_180 W_4_181 W_4_182 (c_X5_setOctet h25) (by decide) (by decide) rfl (Nat.le_of_ble_eq_true rfl) dX8_storeTape_72 rfl ?_
  refine zx_aload_n C dX8_storeTape_75 0 rfl ?_
  obtain ⟨k26, i27, hm⟩ := ckO_e hm
  obtain ⟨a28, h29, hm⟩ := osm_e hm
  refine zx_get (j := 0) C tC_8 k26 i27 ⟨by decide, Or.inl W_1_163⟩ dX8_storeTape_76 (.ref a28) (rf_s h29) ?_
  refine zx_iload C dX8_storeTape_79 5 rfl ?_
  obtain ⟨k30, i31, hm⟩ := ckO_e hm
  obtain ⟨v32, ρ33, h34, hm⟩ := cll_e hm
  refine zx_callV (σ := ρ24) C [.int (x5)] tC_5 k30 i31 Y_X5_soil W_5_80 W_5_81 W_5_82 (c_X5_soil h34) (by decide) (by decide) rfl (Nat.le_of_ble_eq_true rfl) dX8_storeTape_81 rfl ?_
  obtain ⟨y35, hy35⟩ : ∃ z : Int32, z = (x6) + Int32.ofInt 1 := ⟨_, rfl⟩
  replace hm := ltb_e hm hy35
  refine zx_iinc C [(6, .int (y35)), (0, .ref (x0)), (1, .int (x1)), (2, .int (x2)), (3, .int (x3)), (4, .ref (x4)), (5, .int (x5)), (7, .int (x7))] dX8_storeTape_84 6 rfl hy35.symm (by decide) rfl ?_
  refine zx_goto C 18 dX8_storeTape_87 (by decide) ?_
  exact zx_lv [1, 2, 3, 4, 5, 6, 0] [(0, .ref (x0)), (1, .int (x1)), (2, .int (x2)), (3, .int (x3)), (4, .ref (x4)), (5, .int (x5)), (6, .int (y35))] rfl (hrc18 _ _ _ _ _ _ _ _ hm)
set_option maxRecDepth 100000 in
set_option maxHeartbeats 1000000 in
theorem l_X8_storeTape_18 {p : Program} {l : Launch} {e : Env} {s : State} {m : MethodId} {args : Array Value} {below : List Frame} {meth : Method} {c : Code} {D : va_G} {aC : Nat → ClassId} {b0 fu : Nat} {σ0 τ : tM} {v : Unit}  (C : tCx p l s m args meth c yX8_storeTape.cls cX8_storeTape 8 none D aC b0 σ0) (htab : ∀ x ∈ c.exceptionTable.toList, False) (hin : meth.name = yX8_storeTape.name)  : ∀ (n : Nat) (x0 : Nat) (x1 : Int32) (x2 : Int32) (x3 : Int32) (x4 : Nat) (x5 : Int32) (x6 : Int32) (σ : tM), L_X8_storeTape_18 b0 fu  n x0 x1 x2 x3 x4 x5 x6 σ = some (v, τ) → tX p l e s m args below meth c 8 2 47 D aC b0 σ0 (.inl none) τ 18 [(0, .ref (x0)), (1, .int (x1)), (2, .int (x2)), (3, .int (x3)), (4, .ref (x4)), (5, .int (x5)), (6, .int (x6))] [] σ := by
  intro n
  induction n with
  | zero => intro x0 x1 x2 x3 x4 x5 x6 σ hm; unfold L_X8_storeTape_18 at hm; cases hm
  | succ n ih =>
    intro x0 x1 x2 x3 x4 x5 x6 σ hm
    unfold L_X8_storeTape_18 at hm
    obtain ⟨rc18, hrc⟩ : ∃ z, z = L_X8_storeTape_18 b0 fu  n := ⟨_, rfl⟩
    replace hm := ltb_e hm hrc
    rw [← hrc] at ih
    have hrc18 := ih
    clear ih hrc
    refine zx_iload C dX8_storeTape_18 6 rfl ?_
    refine zx_iload_n C dX8_storeTape_20 3 rfl ?_
    refine zx_icmp_ge C 90 dX8_storeTape_21 (by decide) (fun c9 => ?_) (fun c9 => ?_)
    · replace hm := ip_e hm c9
      obtain ⟨rfl, rfl⟩ := ret_e hm
      exact zx_vret C rfl rfl rfl dX8_storeTape_90
    · replace hm := in_e hm c9
      refine zx_iload_n C dX8_storeTape_24 2 rfl ?_
      refine zx_iload C dX8_storeTape_25 6 rfl ?_
      refine zx_iadd C dX8_storeTape_27 ?_
      refine zx_sipush (v := 256) C dX8_storeTape_28 (by decide) ?_
      refine zx_irem C dX8_storeTape_31 (by decide) ?_
      refine zx_topi (fun y10 hy10 => ?_)
      replace hm := ltb_e hm hy10
      refine zx_istore C [(7, .int (y10)), (0, .ref (x0)), (1, .int (x1)), (2, .int (x2)), (3, .int (x3)), (4, .ref (x4)), (5, .int (x5)), (6, .int (x6))] dX8_storeTape_32 (by decide) rfl ?_
      refine zx_iload C dX8_storeTape_34 0 rfl ?_
      refine zx_if_ne C 57 dX8_storeTape_36 (by decide) (fun c11 => ?_) (fun c11 => ?_)
      · replace hm := in_e hm c11
        exact zx_lv [1, 2, 3, 4, 5, 6, 7, 0] [(0, .ref (x0)), (1, .int (x1)), (2, .int (x2)), (3, .int (x3)), (4, .ref (x4)), (5, .int (x5)), (6, .int (x6)), (7, .int (y10))] rfl (j_X8_storeTape_57 C htab hin hrc18   hm)
      · replace hm := ip_e hm c11
        refine zx_aload_n C dX8_storeTape_39 1 rfl ?_
        refine zx_iload_n C dX8_storeTape_40 2 rfl ?_
        refine zx_iload_n C dX8_storeTape_41 3 rfl ?_
        refine zx_iload C dX8_storeTape_42 7 rfl ?_
        refine zx_iadd C dX8_storeTape_44 ?_
        refine zx_sipush (v := 256) C dX8_storeTape_45 (by decide) ?_
        refine zx_idiv C dX8_storeTape_48 (by decide) ?_
        obtain ⟨k36, i37, hm⟩ := ckO_e hm
        obtain ⟨v38, ρ39, h40, hm⟩ := cll_e hm
        refine zx_callV (σ := σ) C [.int (x1), .int (((x2) + (x6)) / (256))] tC_8 k36 i37 Y_X8_pointer W_4_109 W_4_110 W_4_111 (c_X8_pointer h40) (by decide) (by decide) rfl (Nat.le_of_ble_eq_true rfl) dX8_storeTape_49 rfl ?_
        obtain ⟨v41, ρ42, h43, hm⟩ := cll_e hm
        refine zx_callS (σ := ρ39) C [.long (v38)] Y_X8_cellOf W_4_117 W_4_118 (c_X8_cellOf h43) (by decide) (by decide) rfl (Nat.le_of_ble_eq_true rfl) dX8_storeTape_52 rfl ?_
        refine zx_istore C [(5, .int (v41)), (7, .int (y10)), (0, .ref (x0)), (1, .int (x1)), (2, .int (x2)), (3, .int (x3)), (4, .ref (x4)), (6, .int (x6))] dX8_storeTape_55 (by decide) rfl ?_
        exact zx_lv [2, 3, 4, 5, 6, 0, 7, 1] [(0, .ref (x0)), (1, .int (x1)), (2, .int (x2)), (3, .int (x3)), (4, .ref (x4)), (5, .int (v41)), (6, .int (x6)), (7, .int (y10))] rfl (j_X8_storeTape_57 C htab hin hrc18   hm)
set_option maxRecDepth 100000 in
set_option maxHeartbeats 1000000 in
theorem c_X8_storeTape {l : Launch} {D : va_G} {aC : Nat → ClassId} {b0 fu : Nat} {a0 : Nat} {p0 : Int32} {p1 : Int32} {p2 : Int32} {p3 : Nat} {σ τ : tM} {v : Unit} (hm : m_X8_storeTape b0 fu a0 p0 p1 p2 p3 σ = some (v, τ)) : tMt l D aC b0 yX8_storeTape (Cond.code yX8_storeTape cX8_storeTape 8 none) 2 47 [.ref (a0), .int (p0), .int (p1), .int (p2), .ref (p3)] σ (.inl none) τ := by
  unfold m_X8_storeTape at hm
  obtain ⟨hg, hm⟩ := grw_e hm
  refine tMt_of (n := 0) rfl (Nat.le_of_ble_eq_true rfl) hg ?_
  intro p e s m below meth c C htab hin
  refine zx_lv [0, 1, 2, 3, 4] [(0, .ref (a0)), (1, .int (p0)), (2, .int (p1)), (3, .int (p2)), (4, .ref (p3))] rfl ?_
  refine zx_aload_n C dX8_storeTape_0 0 rfl ?_
  refine zx_iload_n C dX8_storeTape_1 1 rfl ?_
  refine zx_iload_n C dX8_storeTape_2 2 rfl ?_
  refine zx_sipush (v := 256) C dX8_storeTape_3 (by decide) ?_
  refine zx_idiv C dX8_storeTape_6 (by decide) ?_
  obtain ⟨k1, i2, hm⟩ := ckO_e hm
  obtain ⟨v3, ρ4, h5, hm⟩ := cll_e hm
  refine zx_callV (σ := σ) C [.int (p0), .int ((p1) / (256))] tC_8 k1 i2 Y_X8_pointer W_4_109 W_4_110 W_4_111 (c_X8_pointer h5) (by decide) (by decide) rfl (Nat.le_of_ble_eq_true rfl) dX8_storeTape_7 rfl ?_
  obtain ⟨v6, ρ7, h8, hm⟩ := cll_e hm
  refine zx_callS (σ := ρ4) C [.long (v3)] Y_X8_cellOf W_4_117 W_4_118 (c_X8_cellOf h8) (by decide) (by decide) rfl (Nat.le_of_ble_eq_true rfl) dX8_storeTape_10 rfl ?_
  refine zx_istore C [(5, .int (v6)), (0, .ref (a0)), (1, .int (p0)), (2, .int (p1)), (3, .int (p2)), (4, .ref (p3))] dX8_storeTape_13 (by decide) rfl ?_
  refine zx_iconst (v := 0) C dX8_storeTape_15 (by decide) ?_
  refine zx_istore C [(6, .int (0)), (5, .int (v6)), (0, .ref (a0)), (1, .int (p0)), (2, .int (p1)), (3, .int (p2)), (4, .ref (p3))] dX8_storeTape_16 (by decide) rfl ?_
  exact zx_lv [2, 3, 4, 5, 6, 1, 0] [(0, .ref (a0)), (1, .int (p0)), (2, .int (p1)), (3, .int (p2)), (4, .ref (p3)), (5, .int (v6)), (6, .int (0))] rfl (l_X8_storeTape_18 C htab hin  _ _ _ _ _ _ _ _ _ hm)
abbrev cX8_storeSame : ByteArray := prog_10_method_35_code
def yX8_storeSame : MethodName := ⟨"SyncTree$Tree", "storeSame", "(IIII)V"⟩
theorem Y_X8_storeSame : tY yX8_storeSame cX8_storeSame 8 none 4 := ⟨W_5_173, W_1_4, ⟨by decide +kernel, by decide +kernel⟩, by decide +kernel⟩
theorem dX8_storeSame_0 : decode cX8_storeSame 0 = .ok (.iload_n 2, 1) := by decide +kernel
theorem dX8_storeSame_1 : decode cX8_storeSame 1 = .ok (.iload_n 3, 1) := by decide +kernel
theorem dX8_storeSame_2 : decode cX8_storeSame 2 = .ok (.iadd, 1) := by decide +kernel
theorem dX8_storeSame_3 : decode cX8_storeSame 3 = .ok (.iconst 1, 1) := by decide +kernel
theorem dX8_storeSame_4 : decode cX8_storeSame 4 = .ok (.isub, 1) := by decide +kernel
theorem dX8_storeSame_5 : decode cX8_storeSame 5 = .ok (.sipush 256, 3) := by decide +kernel
theorem dX8_storeSame_8 : decode cX8_storeSame 8 = .ok (.idiv, 1) := by decide +kernel
theorem dX8_storeSame_9 : decode cX8_storeSame 9 = .ok (.istore 5, 2) := by decide +kernel
theorem dX8_storeSame_11 : decode cX8_storeSame 11 = .ok (.iload_n 2, 1) := by decide +kernel
theorem dX8_storeSame_12 : decode cX8_storeSame 12 = .ok (.sipush 256, 3) := by decide +kernel
theorem dX8_storeSame_15 : decode cX8_storeSame 15 = .ok (.idiv, 1) := by decide +kernel
theorem dX8_storeSame_16 : decode cX8_storeSame 16 = .ok (.istore 6, 2) := by decide +kernel
theorem dX8_storeSame_18 : decode cX8_storeSame 18 = .ok (.iload 6, 2) := by decide +kernel
theorem dX8_storeSame_20 : decode cX8_storeSame 20 = .ok (.iload 5, 2) := by decide +kernel
theorem dX8_storeSame_22 : decode cX8_storeSame 22 = .ok (.if_icmp .gt 59, 3) := by decide +kernel
theorem dX8_storeSame_25 : decode cX8_storeSame 25 = .ok (.aload_n 0, 1) := by decide +kernel
theorem dX8_storeSame_26 : decode cX8_storeSame 26 = .ok (.iload_n 1, 1) := by decide +kernel
theorem dX8_storeSame_27 : decode cX8_storeSame 27 = .ok (.iload 6, 2) := by decide +kernel
theorem dX8_storeSame_29 : decode cX8_storeSame 29 = .ok (.invokevirtual 112, 3) := by decide +kernel
theorem dX8_storeSame_32 : decode cX8_storeSame 32 = .ok (.invokestatic 104, 3) := by decide +kernel
theorem dX8_storeSame_35 : decode cX8_storeSame 35 = .ok (.istore 7, 2) := by decide +kernel
theorem dX8_storeSame_37 : decode cX8_storeSame 37 = .ok (.aload_n 0, 1) := by decide +kernel
theorem dX8_storeSame_38 : decode cX8_storeSame 38 = .ok (.getfield 15, 3) := by decide +kernel
theorem dX8_storeSame_41 : decode cX8_storeSame 41 = .ok (.iload 7, 2) := by decide +kernel
theorem dX8_storeSame_43 : decode cX8_storeSame 43 = .ok (.iload_n 2, 1) := by decide +kernel
theorem dX8_storeSame_44 : decode cX8_storeSame 44 = .ok (.iload 6, 2) := by decide +kernel
theorem dX8_storeSame_46 : decode cX8_storeSame 46 = .ok (.sipush 256, 3) := by decide +kernel
theorem dX8_storeSame_49 : decode cX8_storeSame 49 = .ok (.imul, 1) := by decide +kernel
theorem dX8_storeSame_50 : decode cX8_storeSame 50 = .ok (.isub, 1) := by decide +kernel
theorem dX8_storeSame_51 : decode cX8_storeSame 51 = .ok (.iload_n 2, 1) := by decide +kernel
theorem dX8_storeSame_52 : decode cX8_storeSame 52 = .ok (.iload_n 3, 1) := by decide +kernel
theorem dX8_storeSame_53 : decode cX8_storeSame 53 = .ok (.iadd, 1) := by decide +kernel
theorem dX8_storeSame_54 : decode cX8_storeSame 54 = .ok (.iload 6, 2) := by decide +kernel
theorem dX8_storeSame_56 : decode cX8_storeSame 56 = .ok (.sipush 256, 3) := by decide +kernel
theorem dX8_storeSame_59 : decode cX8_storeSame 59 = .ok (.imul, 1) := by decide +kernel
theorem dX8_storeSame_60 : decode cX8_storeSame 60 = .ok (.isub, 1) := by decide +kernel
theorem dX8_storeSame_61 : decode cX8_storeSame 61 = .ok (.iload 4, 2) := by decide +kernel
theorem dX8_storeSame_63 : decode cX8_storeSame 63 = .ok (.invokevirtual 139, 3) := by decide +kernel
theorem dX8_storeSame_66 : decode cX8_storeSame 66 = .ok (.aload_n 0, 1) := by decide +kernel
theorem dX8_storeSame_67 : decode cX8_storeSame 67 = .ok (.getfield 15, 3) := by decide +kernel
theorem dX8_storeSame_70 : decode cX8_storeSame 70 = .ok (.iload 7, 2) := by decide +kernel
theorem dX8_storeSame_72 : decode cX8_storeSame 72 = .ok (.invokevirtual 143, 3) := by decide +kernel
theorem dX8_storeSame_75 : decode cX8_storeSame 75 = .ok (.iinc 6 1, 3) := by decide +kernel
theorem dX8_storeSame_78 : decode cX8_storeSame 78 = .ok (.goto (-60), 3) := by decide +kernel
theorem dX8_storeSame_81 : decode cX8_storeSame 81 = .ok (.return_, 1) := by decide +kernel
set_option maxRecDepth 100000 in
set_option maxHeartbeats 1000000 in
theorem l_X8_storeSame_18 {p : Program} {l : Launch} {e : Env} {s : State} {m : MethodId} {args : Array Value} {below : List Frame} {meth : Method} {c : Code} {D : va_G} {aC : Nat → ClassId} {b0 fu : Nat} {σ0 τ : tM} {v : Unit}  (C : tCx p l s m args meth c yX8_storeSame.cls cX8_storeSame 8 none D aC b0 σ0) (htab : ∀ x ∈ c.exceptionTable.toList, False) (hin : meth.name = yX8_storeSame.name)  : ∀ (n : Nat) (x0 : Nat) (x1 : Int32) (x2 : Int32) (x3 : Int32) (x4 : Int32) (x5 : Int32) (x6 : Int32) (σ : tM), L_X8_storeSame_18 b0 fu  n x0 x1 x2 x3 x4 x5 x6 σ = some (v, τ) → tX p l e s m args below meth c 8 2 53 D aC b0 σ0 (.inl none) τ 18 [(0, .ref (x0)), (1, .int (x1)), (2, .int (x2)), (3, .int (x3)), (4, .int (x4)), (5, .int (x5)), (6, .int (x6))] [] σ := by
  intro n
  induction n with
  | zero => intro x0 x1 x2 x3 x4 x5 x6 σ hm; unfold L_X8_storeSame_18 at hm; cases hm
  | succ n ih =>
    intro x0 x1 x2 x3 x4 x5 x6 σ hm
    unfold L_X8_storeSame_18 at hm
    obtain ⟨rc18, hrc⟩ : ∃ z, z = L_X8_storeSame_18 b0 fu  n := ⟨_, rfl⟩
    replace hm := ltb_e hm hrc
    rw [← hrc] at ih
    have hrc18 := ih
    clear ih hrc
    refine zx_iload C dX8_storeSame_18 6 rfl ?_
    refine zx_iload C dX8_storeSame_20 5 rfl ?_
    refine zx_icmp_gt C 81 dX8_storeSame_22 (by decide) (fun c3 => ?_) (fun c3 => ?_)
    · replace hm := ip_e hm c3
      obtain ⟨rfl, rfl⟩ := ret_e hm
      exact zx_vret C rfl rfl rfl dX8_storeSame_81
    · replace hm := in_e hm c3
      refine zx_aload_n C dX8_storeSame_25 0 rfl ?_
      refine zx_iload_n C dX8_storeSame_26 1 rfl ?_
      refine zx_iload C dX8_storeSame_27 6 rfl ?_
      obtain ⟨k4, i5, hm⟩ := ckO_e hm
      obtain ⟨v6, ρ7, h8, hm⟩ := cll_e hm
      refine zx_callV (σ := σ) C [.int (x1), .int (x6)] tC_8 k4 i5 Y_X8_pointer W_4_109 W_4_110 W_4_111 (c_X8_pointer h8) (by decide) (by decide) rfl (Nat.le_of_ble_eq_true rfl) dX8_storeSame_29 rfl ?_
      obtain ⟨v9, ρ10, h11, hm⟩ := cll_e hm
      refine zx_callS (σ := ρ7) C [.long (v6)] Y_X8_cellOf W_4_117 W_4_118 (c_X8_cellOf h11) (by decide) (by decide) rfl (Nat.le_of_ble_eq_true rfl) dX8_storeSame_32 rfl ?_
      refine zx_istore C [(7, .int (v9)), (0, .ref (x0)), (1, .int (x1)), (2, .int (x2)), (3, .int (x3)), (4, .int (x4)), (5, .int (x5)), (6, .int (x6))] dX8_storeSame_35 (by decide) rfl ?_
      refine zx_aload_n C dX8_storeSame_37 1 rfl ?_
      obtain ⟨k12, i13, hm⟩ := ckO_e hm
      obtain ⟨a14, h15, hm⟩ := osm_e hm
      refine zx_get (j := 0) C tC_8 k12 i13 ⟨by decide, Or.inl W_1_163⟩ dX8_storeSame_38 (.ref a14) (rf_s h15) ?_
      refine zx_iload C dX8_storeSame_41 0 rfl ?_
      refine zx_iload_n C dX8_storeSame_43 3 rfl ?_
      refine zx_iload C dX8_storeSame_44 7 rfl ?_
      refine zx_sipush (v := 256) C dX8_storeSame_46 (by decide) ?_
      refine zx_imul C dX8_storeSame_49 ?_
      refine zx_isub C dX8_storeSame_50 ?_
      refine zx_iload_n C dX8_storeSame_51 3 rfl ?_
      refine zx_iload_n C dX8_storeSame_52 4 rfl ?_
      refine zx_iadd C dX8_storeSame_53 ?_
      refine zx_iload C dX8_storeSame_54 7 rfl ?_
      refine zx_sipush (v := 256) C dX8_storeSame_56 (by decide) ?_
      refine zx_imul C dX8_storeSame_59 ?_
      refine zx_isub C dX8_storeSame_60 ?_
      refine zx_iload C dX8_storeSame_61 5 rfl ?_
      obtain ⟨k16, i17, hm⟩ := ckO_e hm
      obtain ⟨v18, ρ19, h20, hm⟩ := cll_e hm
      refine zx_callV (σ := ρ10) C [.int (v9), .int ((x2) - ((x6) * (256))), .int (((x2) + (x3)) - ((x6) * (256))), .int (x4)] tC_5 k16 i17 Y_X5_setSpan W_5_74 W_5_75 W_5_76 (c_X5_setSpan h20) (by decide) (by decide) rfl (Nat.le_of_ble_eq_true rfl) dX8_storeSame_63 rfl ?_
      refine zx_aload_n C dX8_storeSame_66 1 rfl ?_
      obtain ⟨k21, i22, hm⟩ := ckO_e hm
      obtain ⟨a23, h24, hm⟩ := osm_e hm
      refine zx_get (j := 0) C tC_8 k21 i22 ⟨by decide, Or.inl W_1_163⟩ dX8_storeSame_67 (.ref a23) (rf_s h24) ?_
      refine zx_iload C dX8_storeSame_70 0 rfl ?_
      obtain ⟨k25, i26, hm⟩ := ckO_e hm
      obtain ⟨v27, ρ28, h29, hm⟩ := cll_e hm
      refine zx_callV (σ := ρ19) C [.int (v9)] tC_5 k25 i26 Y_X5_soil W_5_80 W_5_81 W_5_82 (c_X5_soil h29) (by decide) (by decide) rfl (Nat.le_of_ble_eq_true rfl) dX8_storeSame_72 rfl ?_
      obtain ⟨y30, hy30⟩ : ∃ z : Int32, z = (x6) + Int32.ofInt 1 := ⟨_, rfl⟩
      replace hm := ltb_e hm hy30
      refine zx_iinc C [(6, .int (y30)), (7, .int (v9)), (0, .ref (x0)), (1, .int (x1)), (2, .int (x2)), (3, .int (x3)), (4, .int (x4)), (5, .int (x5))] dX8_storeSame_75 7 rfl hy30.symm (by decide) rfl ?_
      refine zx_goto C 18 dX8_storeSame_78 (by decide) ?_
      exact zx_lv [2, 3, 4, 5, 6, 7, 0] [(0, .ref (x0)), (1, .int (x1)), (2, .int (x2)), (3, .int (x3)), (4, .int (x4)), (5, .int (x5)), (6, .int (y30))] rfl (hrc18 _ _ _ _ _ _ _ _ hm)
set_option maxRecDepth 100000 in
set_option maxHeartbeats 1000000 in
theorem c_X8_storeSame {l : Launch} {D : va_G} {aC : Nat → ClassId} {b0 fu : Nat} {a0 : Nat} {p0 : Int32} {p1 : Int32} {p2 : Int32} {p3 : Int32} {σ τ : tM} {v : Unit} (hm : m_X8_storeSame b0 fu a0 p0 p1 p2 p3 σ = some (v, τ)) : tMt l D aC b0 yX8_storeSame (Cond.code yX8_storeSame cX8_storeSame 8 none) 2 53 [.ref (a0), .int (p0), .int (p1), .int (p2), .int (p3)] σ (.inl none) τ := by
  unfold m_X8_storeSame at hm
  obtain ⟨hg, hm⟩ := grw_e hm
  refine tMt_of (n := 0) rfl (Nat.le_of_ble_eq_true rfl) hg ?_
  intro p e s m below meth c C htab hin
  refine zx_lv [0, 1, 2, 3, 4] [(0, .ref (a0)), (1, .int (p0)), (2, .int (p1)), (3, .int (p2)), (4, .int (p3))] rfl ?_
  refine zx_iload_n C dX8_storeSame_0 2 rfl ?_
  refine zx_iload_n C dX8_storeSame_1 3 rfl ?_
  refine zx_iadd C dX8_storeSame_2 ?_
  refine zx_iconst (v := 1) C dX8_storeSame_3 (by decide) ?_
  refine zx_isub C dX8_storeSame_4 ?_
  refine zx_sipush (v := 256) C dX8_storeSame_5 (by decide) ?_
  refine zx_idiv C dX8_storeSame_8 (by decide) ?_
  refine zx_topi (fun y1 hy1 => ?_)
  replace hm := ltb_e hm hy1
  refine zx_istore C [(5, .int (y1)), (0, .ref (a0)), (1, .int (p0)), (2, .int (p1)), (3, .int (p2)), (4, .int (p3))] dX8_storeSame_9 (by decide) rfl ?_
  refine zx_iload_n C dX8_storeSame_11 3 rfl ?_
  refine zx_sipush (v := 256) C dX8_storeSame_12 (by decide) ?_
  refine zx_idiv C dX8_storeSame_15 (by decide) ?_
  refine zx_topi (fun y2 hy2 => ?_)
  replace hm := ltb_e hm hy2
  refine zx_istore C [(6, .int (y2)), (5, .int (y1)), (0, .ref (a0)), (1, .int (p0)), (2, .int (p1)), (3, .int (p2)), (4, .int (p3))] dX8_storeSame_16 (by decide) rfl ?_
  exact zx_lv [2, 3, 4, 5, 6, 1, 0] [(0, .ref (a0)), (1, .int (p0)), (2, .int (p1)), (3, .int (p2)), (4, .int (p3)), (5, .int (y1)), (6, .int (y2))] rfl (l_X8_storeSame_18 C htab hin  _ _ _ _ _ _ _ _ _ hm)
abbrev cX8_octetAt : ByteArray := prog_10_method_36_code
def yX8_octetAt : MethodName := ⟨"SyncTree$Tree", "octetAt", "(II)I"⟩
theorem Y_X8_octetAt : tY yX8_octetAt cX8_octetAt 3 (some .int) 2 := ⟨W_5_192, W_1_4, ⟨by decide +kernel, by decide +kernel⟩, by decide +kernel⟩
theorem dX8_octetAt_0 : decode cX8_octetAt 0 = .ok (.aload_n 0, 1) := by decide +kernel
theorem dX8_octetAt_1 : decode cX8_octetAt 1 = .ok (.getfield 15, 3) := by decide +kernel
theorem dX8_octetAt_4 : decode cX8_octetAt 4 = .ok (.aload_n 0, 1) := by decide +kernel
theorem dX8_octetAt_5 : decode cX8_octetAt 5 = .ok (.iload_n 1, 1) := by decide +kernel
theorem dX8_octetAt_6 : decode cX8_octetAt 6 = .ok (.iload_n 2, 1) := by decide +kernel
theorem dX8_octetAt_7 : decode cX8_octetAt 7 = .ok (.sipush 256, 3) := by decide +kernel
theorem dX8_octetAt_10 : decode cX8_octetAt 10 = .ok (.idiv, 1) := by decide +kernel
theorem dX8_octetAt_11 : decode cX8_octetAt 11 = .ok (.invokevirtual 112, 3) := by decide +kernel
theorem dX8_octetAt_14 : decode cX8_octetAt 14 = .ok (.invokestatic 104, 3) := by decide +kernel
theorem dX8_octetAt_17 : decode cX8_octetAt 17 = .ok (.iload_n 2, 1) := by decide +kernel
theorem dX8_octetAt_18 : decode cX8_octetAt 18 = .ok (.sipush 256, 3) := by decide +kernel
theorem dX8_octetAt_21 : decode cX8_octetAt 21 = .ok (.irem, 1) := by decide +kernel
theorem dX8_octetAt_22 : decode cX8_octetAt 22 = .ok (.invokevirtual 86, 3) := by decide +kernel
theorem dX8_octetAt_25 : decode cX8_octetAt 25 = .ok (.ireturn, 1) := by decide +kernel
set_option maxRecDepth 100000 in
set_option maxHeartbeats 1000000 in
theorem c_X8_octetAt {l : Launch} {D : va_G} {aC : Nat → ClassId} {b0 fu : Nat} {a0 : Nat} {p0 : Int32} {p1 : Int32} {σ τ : tM} {v : Int32} (hm : m_X8_octetAt b0 fu a0 p0 p1 σ = some (v, τ)) : tMt l D aC b0 yX8_octetAt (Cond.code yX8_octetAt cX8_octetAt 3 (some .int)) 2 47 [.ref (a0), .int (p0), .int (p1)] σ (.inl (some (.int v))) τ := by
  unfold m_X8_octetAt at hm
  obtain ⟨hg, hm⟩ := grw_e hm
  refine tMt_of (n := 0) rfl (Nat.le_of_ble_eq_true rfl) hg ?_
  intro p e s m below meth c C htab hin
  refine zx_lv [0, 1, 2] [(0, .ref (a0)), (1, .int (p0)), (2, .int (p1))] rfl ?_
  refine zx_aload_n C dX8_octetAt_0 0 rfl ?_
  obtain ⟨k1, i2, hm⟩ := ckO_e hm
  obtain ⟨a3, h4, hm⟩ := osm_e hm
  refine zx_get (j := 0) C tC_8 k1 i2 ⟨by decide, Or.inl W_1_163⟩ dX8_octetAt_1 (.ref a3) (rf_s h4) ?_
  refine zx_aload_n C dX8_octetAt_4 0 rfl ?_
  refine zx_iload_n C dX8_octetAt_5 1 rfl ?_
  refine zx_iload_n C dX8_octetAt_6 2 rfl ?_
  refine zx_sipush (v := 256) C dX8_octetAt_7 (by decide) ?_
  refine zx_idiv C dX8_octetAt_10 (by decide) ?_
  obtain ⟨v5, ρ6, h7, hm⟩ := cll_e hm
  refine zx_callV (σ := σ) C [.int (p0), .int ((p1) / (256))] tC_8 k1 i2 Y_X8_pointer W_4_109 W_4_110 W_4_111 (c_X8_pointer h7) (by decide) (by decide) rfl (Nat.le_of_ble_eq_true rfl) dX8_octetAt_11 rfl ?_
  obtain ⟨v8, ρ9, h10, hm⟩ := cll_e hm
  refine zx_callS (σ := ρ6) C [.long (v5)] Y_X8_cellOf W_4_117 W_4_118 (c_X8_cellOf h10) (by decide) (by decide) rfl (Nat.le_of_ble_eq_true rfl) dX8_octetAt_14 rfl ?_
  refine zx_iload_n C dX8_octetAt_17 2 rfl ?_
  refine zx_sipush (v := 256) C dX8_octetAt_18 (by decide) ?_
  refine zx_irem C dX8_octetAt_21 (by decide) ?_
  obtain ⟨k11, i12, hm⟩ := ckO_e hm
  obtain ⟨v13, ρ14, h15, hm⟩ := cll_e hm
  refine zx_callV (σ := ρ9) C [.int (v8), .int ((p1) - (p1) / (256) * (256))] tC_5 k11 i12 Y_X5_octet W_4_120 W_4_121 W_4_122 (c_X5_octet h15) (by decide) (by decide) rfl (Nat.le_of_ble_eq_true rfl) dX8_octetAt_22 rfl ?_
  obtain ⟨rfl, rfl⟩ := ret_e hm
  exact zx_iret C rfl rfl rfl dX8_octetAt_25
