abbrev cX12_firstFree : ByteArray := prog_13_method_49_code
def yX12_firstFree : MethodName := ⟨"SyncTreeModel", "firstFree", "(I)I"⟩
theorem Y_X12_firstFree : tY yX12_firstFree cX12_firstFree 4 (some .int) 1 := ⟨W_8_86, W_1_14, ⟨by decide +kernel, by decide +kernel⟩, by decide +kernel⟩
theorem dX12_firstFree_0 : decode cX12_firstFree 0 = .ok (.aload_n 0, 1) := by decide +kernel
theorem dX12_firstFree_1 : decode cX12_firstFree 1 = .ok (.iload_n 1, 1) := by decide +kernel
theorem dX12_firstFree_2 : decode cX12_firstFree 2 = .ok (.invokevirtual 299, 3) := by decide +kernel
theorem dX12_firstFree_5 : decode cX12_firstFree 5 = .ok (.istore_n 2, 1) := by decide +kernel
theorem dX12_firstFree_6 : decode cX12_firstFree 6 = .ok (.iconst 0, 1) := by decide +kernel
theorem dX12_firstFree_7 : decode cX12_firstFree 7 = .ok (.istore_n 3, 1) := by decide +kernel
theorem dX12_firstFree_8 : decode cX12_firstFree 8 = .ok (.iload_n 3, 1) := by decide +kernel
theorem dX12_firstFree_9 : decode cX12_firstFree 9 = .ok (.iload_n 2, 1) := by decide +kernel
theorem dX12_firstFree_10 : decode cX12_firstFree 10 = .ok (.if_icmp .ge 20, 3) := by decide +kernel
theorem dX12_firstFree_13 : decode cX12_firstFree 13 = .ok (.aload_n 0, 1) := by decide +kernel
theorem dX12_firstFree_14 : decode cX12_firstFree 14 = .ok (.iload_n 1, 1) := by decide +kernel
theorem dX12_firstFree_15 : decode cX12_firstFree 15 = .ok (.iload_n 3, 1) := by decide +kernel
theorem dX12_firstFree_16 : decode cX12_firstFree 16 = .ok (.invokevirtual 302, 3) := by decide +kernel
theorem dX12_firstFree_19 : decode cX12_firstFree 19 = .ok (.bipush 64, 2) := by decide +kernel
theorem dX12_firstFree_21 : decode cX12_firstFree 21 = .ok (.if_icmp .eq 9, 3) := by decide +kernel
theorem dX12_firstFree_24 : decode cX12_firstFree 24 = .ok (.iinc 3 1, 3) := by decide +kernel
theorem dX12_firstFree_27 : decode cX12_firstFree 27 = .ok (.goto (-19), 3) := by decide +kernel
theorem dX12_firstFree_30 : decode cX12_firstFree 30 = .ok (.iload_n 3, 1) := by decide +kernel
theorem dX12_firstFree_31 : decode cX12_firstFree 31 = .ok (.ireturn, 1) := by decide +kernel
set_option maxRecDepth 100000 in
set_option maxHeartbeats 1000000 in
theorem j_X12_firstFree_30 {p : Program} {l : Launch} {e : Env} {s : State} {m : MethodId} {args : Array Value} {below : List Frame} {meth : Method} {c : Code} {D : va_G} {aC : Nat → ClassId} {b0 fu : Nat} {σ0 τ : tM} {v : Int32}  (C : tCx p l s m args meth c yX12_firstFree.cls cX12_firstFree 4 (some .int) D aC b0 σ0) (htab : ∀ x ∈ c.exceptionTable.toList, False) (hin : meth.name = yX12_firstFree.name)  {x3 : Int32} {σ : tM} (hm : J_X12_firstFree_30 b0 fu  x3 σ = some (v, τ)) : tX p l e s m args below meth c 4 6 134 D aC b0 σ0 (.inl (some (.int v))) τ 30 [(3, .int (x3))] [] σ := by
  unfold J_X12_firstFree_30 at hm
  refine zx_iload_n C dX12_firstFree_30 0 rfl ?_
  obtain ⟨rfl, rfl⟩ := ret_e hm
  exact zx_iret C rfl rfl rfl dX12_firstFree_31
set_option maxRecDepth 100000 in
set_option maxHeartbeats 1000000 in
theorem l_X12_firstFree_8 {p : Program} {l : Launch} {e : Env} {s : State} {m : MethodId} {args : Array Value} {below : List Frame} {meth : Method} {c : Code} {D : va_G} {aC : Nat → ClassId} {b0 fu : Nat} {σ0 τ : tM} {v : Int32}  (C : tCx p l s m args meth c yX12_firstFree.cls cX12_firstFree 4 (some .int) D aC b0 σ0) (htab : ∀ x ∈ c.exceptionTable.toList, False) (hin : meth.name = yX12_firstFree.name)  : ∀ (n : Nat) (x0 : Nat) (x1 : Int32) (x2 : Int32) (x3 : Int32) (σ : tM), L_X12_firstFree_8 b0 fu  n x0 x1 x2 x3 σ = some (v, τ) → tX p l e s m args below meth c 4 6 134 D aC b0 σ0 (.inl (some (.int v))) τ 8 [(0, .ref (x0)), (1, .int (x1)), (2, .int (x2)), (3, .int (x3))] [] σ := by
  intro n
  induction n with
  | zero => intro x0 x1 x2 x3 σ hm; unfold L_X12_firstFree_8 at hm; cases hm
  | succ n ih =>
    intro x0 x1 x2 x3 σ hm
    unfold L_X12_firstFree_8 at hm
    obtain ⟨rc8, hrc⟩ : ∃ z, z = L_X12_firstFree_8 b0 fu  n := ⟨_, rfl⟩
    replace hm := ltb_e hm hrc
    rw [← hrc] at ih
    have hrc8 := ih
    clear ih hrc
    refine zx_iload_n C dX12_firstFree_8 3 rfl ?_
    refine zx_iload_n C dX12_firstFree_9 2 rfl ?_
    refine zx_icmp_ge C 30 dX12_firstFree_10 (by decide) (fun c6 => ?_) (fun c6 => ?_)
    · replace hm := ip_e hm c6
      exact zx_lv [3] [(3, .int (x3))] rfl (j_X12_firstFree_30 C htab hin    hm)
    · replace hm := in_e hm c6
      refine zx_aload_n C dX12_firstFree_13 0 rfl ?_
      refine zx_iload_n C dX12_firstFree_14 1 rfl ?_
      refine zx_iload_n C dX12_firstFree_15 3 rfl ?_
      obtain ⟨k7, i8, hm⟩ := ckO_e hm
      obtain ⟨v9, ρ10, h11, hm⟩ := cll_e hm
      refine zx_callV (σ := σ) C [.int (x1), .int (x3)] tC_11 k7 i8 Y_X12_entryNode W_8_52 W_8_54 Wp_83 (c_X12_entryNode h11) (by decide) (by decide) rfl (Nat.le_of_ble_eq_true rfl) dX12_firstFree_16 rfl ?_
      refine zx_bipush (v := 64) C dX12_firstFree_19 (by decide) ?_
      refine zx_icmp_eq C 30 dX12_firstFree_21 (by decide) (fun c12 => ?_) (fun c12 => ?_)
      · replace hm := ip_e hm c12
        exact zx_lv [3] [(3, .int (x3))] rfl (j_X12_firstFree_30 C htab hin    hm)
      · replace hm := in_e hm c12
        obtain ⟨y13, hy13⟩ : ∃ z : Int32, z = (x3) + Int32.ofInt 1 := ⟨_, rfl⟩
        replace hm := ltb_e hm hy13
        refine zx_iinc C [(3, .int (y13)), (0, .ref (x0)), (1, .int (x1)), (2, .int (x2))] dX12_firstFree_24 3 rfl hy13.symm (by decide) rfl ?_
        refine zx_goto C 8 dX12_firstFree_27 (by decide) ?_
        exact zx_lv [1, 2, 3, 0] [(0, .ref (x0)), (1, .int (x1)), (2, .int (x2)), (3, .int (y13))] rfl (hrc8 _ _ _ _ _ hm)
set_option maxRecDepth 100000 in
set_option maxHeartbeats 1000000 in
theorem c_X12_firstFree {l : Launch} {D : va_G} {aC : Nat → ClassId} {b0 fu : Nat} {a0 : Nat} {p0 : Int32} {σ τ : tM} {v : Int32} (hm : m_X12_firstFree b0 fu a0 p0 σ = some (v, τ)) : tMt l D aC b0 yX12_firstFree (Cond.code yX12_firstFree cX12_firstFree 4 (some .int)) 6 134 [.ref (a0), .int (p0)] σ (.inl (some (.int v))) τ := by
  unfold m_X12_firstFree at hm
  obtain ⟨hg, hm⟩ := grw_e hm
  refine tMt_of (n := 0) rfl (Nat.le_of_ble_eq_true rfl) hg ?_
  intro p e s m below meth c C htab hin
  refine zx_lv [0, 1] [(0, .ref (a0)), (1, .int (p0))] rfl ?_
  refine zx_aload_n C dX12_firstFree_0 0 rfl ?_
  refine zx_iload_n C dX12_firstFree_1 1 rfl ?_
  obtain ⟨k1, i2, hm⟩ := ckO_e hm
  obtain ⟨v3, ρ4, h5, hm⟩ := cll_e hm
  refine zx_callV (σ := σ) C [.int (p0)] tC_11 k1 i2 Y_X12_entries W_8_48 W_8_50 Wp_82 (c_X12_entries h5) (by decide) (by decide) rfl (Nat.le_of_ble_eq_true rfl) dX12_firstFree_2 rfl ?_
  refine zx_istore_n C [(2, .int (v3)), (0, .ref (a0)), (1, .int (p0))] dX12_firstFree_5 rfl (by decide) rfl ?_
  refine zx_iconst (v := 0) C dX12_firstFree_6 (by decide) ?_
  refine zx_istore_n C [(3, .int (0)), (2, .int (v3)), (0, .ref (a0)), (1, .int (p0))] dX12_firstFree_7 rfl (by decide) rfl ?_
  exact zx_lv [2, 3, 1, 0] [(0, .ref (a0)), (1, .int (p0)), (2, .int (v3)), (3, .int (0))] rfl (l_X12_firstFree_8 C htab hin  _ _ _ _ _ _ hm)
abbrev cX12_lacks : ByteArray := prog_13_method_50_code
def yX12_lacks : MethodName := ⟨"SyncTreeModel", "lacks", "(I)Z"⟩
theorem Y_X12_lacks : tY yX12_lacks cX12_lacks 3 (some .boolean) 1 := ⟨W_8_82, W_1_14, ⟨by decide +kernel, by decide +kernel⟩, by decide +kernel⟩
theorem dX12_lacks_0 : decode cX12_lacks 0 = .ok (.aload_n 0, 1) := by decide +kernel
theorem dX12_lacks_1 : decode cX12_lacks 1 = .ok (.iload_n 1, 1) := by decide +kernel
theorem dX12_lacks_2 : decode cX12_lacks 2 = .ok (.invokevirtual 305, 3) := by decide +kernel
theorem dX12_lacks_5 : decode cX12_lacks 5 = .ok (.istore_n 2, 1) := by decide +kernel
theorem dX12_lacks_6 : decode cX12_lacks 6 = .ok (.iload_n 2, 1) := by decide +kernel
theorem dX12_lacks_7 : decode cX12_lacks 7 = .ok (.aload_n 0, 1) := by decide +kernel
theorem dX12_lacks_8 : decode cX12_lacks 8 = .ok (.iload_n 1, 1) := by decide +kernel
theorem dX12_lacks_9 : decode cX12_lacks 9 = .ok (.invokevirtual 299, 3) := by decide +kernel
theorem dX12_lacks_12 : decode cX12_lacks 12 = .ok (.if_icmp .ne 27, 3) := by decide +kernel
theorem dX12_lacks_15 : decode cX12_lacks 15 = .ok (.aload_n 0, 1) := by decide +kernel
theorem dX12_lacks_16 : decode cX12_lacks 16 = .ok (.iload_n 1, 1) := by decide +kernel
theorem dX12_lacks_17 : decode cX12_lacks 17 = .ok (.iload_n 2, 1) := by decide +kernel
theorem dX12_lacks_18 : decode cX12_lacks 18 = .ok (.bipush 8, 2) := by decide +kernel
theorem dX12_lacks_20 : decode cX12_lacks 20 = .ok (.idiv, 1) := by decide +kernel
theorem dX12_lacks_21 : decode cX12_lacks 21 = .ok (.iload_n 2, 1) := by decide +kernel
theorem dX12_lacks_22 : decode cX12_lacks 22 = .ok (.bipush 8, 2) := by decide +kernel
theorem dX12_lacks_24 : decode cX12_lacks 24 = .ok (.idiv, 1) := by decide +kernel
theorem dX12_lacks_25 : decode cX12_lacks 25 = .ok (.invokevirtual 308, 3) := by decide +kernel
theorem dX12_lacks_28 : decode cX12_lacks 28 = .ok (.aload_n 0, 1) := by decide +kernel
theorem dX12_lacks_29 : decode cX12_lacks 29 = .ok (.invokevirtual 311, 3) := by decide +kernel
theorem dX12_lacks_32 : decode cX12_lacks 32 = .ok (.if_icmp .le 7, 3) := by decide +kernel
theorem dX12_lacks_35 : decode cX12_lacks 35 = .ok (.iconst 1, 1) := by decide +kernel
theorem dX12_lacks_36 : decode cX12_lacks 36 = .ok (.goto 4, 3) := by decide +kernel
theorem dX12_lacks_39 : decode cX12_lacks 39 = .ok (.iconst 0, 1) := by decide +kernel
theorem dX12_lacks_40 : decode cX12_lacks 40 = .ok (.ireturn, 1) := by decide +kernel
set_option maxRecDepth 100000 in
set_option maxHeartbeats 1000000 in
theorem j_X12_lacks_40 {p : Program} {l : Launch} {e : Env} {s : State} {m : MethodId} {args : Array Value} {below : List Frame} {meth : Method} {c : Code} {D : va_G} {aC : Nat → ClassId} {b0 fu : Nat} {σ0 τ : tM} {v : Int32}  (C : tCx p l s m args meth c yX12_lacks.cls cX12_lacks 3 (some .boolean) D aC b0 σ0) (htab : ∀ x ∈ c.exceptionTable.toList, False) (hin : meth.name = yX12_lacks.name)  {s0 : Int32} {σ : tM} (hm : J_X12_lacks_40 b0 fu  s0 σ = some (v, τ)) : tX p l e s m args below meth c 3 7 157 D aC b0 σ0 (.inl (some (.int v))) τ 40 [] [.int (s0)] σ := by
  unfold J_X12_lacks_40 at hm
  obtain ⟨h12, hm⟩ := ckZ_e hm
  obtain ⟨rfl, rfl⟩ := ret_e hm
  exact zx_zret C rfl h12 rfl rfl dX12_lacks_40
set_option maxRecDepth 100000 in
set_option maxHeartbeats 1000000 in
theorem j_X12_lacks_39 {p : Program} {l : Launch} {e : Env} {s : State} {m : MethodId} {args : Array Value} {below : List Frame} {meth : Method} {c : Code} {D : va_G} {aC : Nat → ClassId} {b0 fu : Nat} {σ0 τ : tM} {v : Int32}  (C : tCx p l s m args meth c yX12_lacks.cls cX12_lacks 3 (some .boolean) D aC b0 σ0) (htab : ∀ x ∈ c.exceptionTable.toList, False) (hin : meth.name = yX12_lacks.name)   {σ : tM} (hm : J_X12_lacks_39 b0 fu   σ = some (v, τ)) : tX p l e s m args below meth c 3 7 157 D aC b0 σ0 (.inl (some (.int v))) τ 39 [] [] σ := by
  unfold J_X12_lacks_39 at hm
  refine zx_iconst (v := 0) C dX12_lacks_39 (by decide) ?_
  exact zx_lv [] [] rfl (j_X12_lacks_40 C htab hin    hm)
set_option maxRecDepth 100000 in
set_option maxHeartbeats 1000000 in
theorem c_X12_lacks {l : Launch} {D : va_G} {aC : Nat → ClassId} {b0 fu : Nat} {a0 : Nat} {p0 : Int32} {σ τ : tM} {v : Int32} (hm : m_X12_lacks b0 fu a0 p0 σ = some (v, τ)) : tMt l D aC b0 yX12_lacks (Cond.code yX12_lacks cX12_lacks 3 (some .boolean)) 7 157 [.ref (a0), .int (p0)] σ (.inl (some (.int v))) τ := by
  unfold m_X12_lacks at hm
  obtain ⟨hg, hm⟩ := grw_e hm
  refine tMt_of (n := 0) rfl (Nat.le_of_ble_eq_true rfl) hg ?_
  intro p e s m below meth c C htab hin
  refine zx_lv [0, 1] [(0, .ref (a0)), (1, .int (p0))] rfl ?_
  refine zx_aload_n C dX12_lacks_0 0 rfl ?_
  refine zx_iload_n C dX12_lacks_1 1 rfl ?_
  obtain ⟨k1, i2, hm⟩ := ckO_e hm
  obtain ⟨v3, ρ4, h5, hm⟩ := cll_e hm
  refine zx_callV (σ := σ) C [.int (p0)] tC_11 k1 i2 Y_X12_firstFree W_8_83 W_8_85 Wp_90 (c_X12_firstFree h5) (by decide) (by decide) rfl (Nat.le_of_ble_eq_true rfl) dX12_lacks_2 rfl ?_
  refine zx_istore_n C [(2, .int (v3)), (0, .ref (a0)), (1, .int (p0))] dX12_lacks_5 rfl (by decide) rfl ?_
  refine zx_iload_n C dX12_lacks_6 0 rfl ?_
  refine zx_aload_n C dX12_lacks_7 1 rfl ?_
  refine zx_iload_n C dX12_lacks_8 2 rfl ?_
  obtain ⟨k6, i7, hm⟩ := ckO_e hm
  obtain ⟨v8, ρ9, h10, hm⟩ := cll_e hm
  refine zx_callV (σ := ρ4) C [.int (p0)] tC_11 k6 i7 Y_X12_entries W_8_48 W_8_50 Wp_82 (c_X12_entries h10) (by decide) (by decide) rfl (Nat.le_of_ble_eq_true rfl) dX12_lacks_9 rfl ?_
  refine zx_icmp_ne C 39 dX12_lacks_12 (by decide) (fun c11 => ?_) (fun c11 => ?_)
  · replace hm := in_e hm c11
    exact zx_lv [] [] rfl (j_X12_lacks_39 C htab hin    hm)
  · replace hm := ip_e hm c11
    refine zx_aload_n C dX12_lacks_15 1 rfl ?_
    refine zx_iload_n C dX12_lacks_16 2 rfl ?_
    refine zx_iload_n C dX12_lacks_17 0 rfl ?_
    refine zx_bipush (v := 8) C dX12_lacks_18 (by decide) ?_
    refine zx_idiv C dX12_lacks_20 (by decide) ?_
    refine zx_iload_n C dX12_lacks_21 0 rfl ?_
    refine zx_bipush (v := 8) C dX12_lacks_22 (by decide) ?_
    refine zx_idiv C dX12_lacks_24 (by decide) ?_
    obtain ⟨k13, i14, hm⟩ := ckO_e hm
    obtain ⟨v15, ρ16, h17, hm⟩ := cll_e hm
    refine zx_callV (σ := ρ9) C [.int (p0), .int ((v3) / (8)), .int ((v3) / (8))] tC_11 k13 i14 Y_X12_needs W_8_87 W_8_89 Wp_91 (c_X12_needs h17) (by decide) (by decide) rfl (Nat.le_of_ble_eq_true rfl) dX12_lacks_25 rfl ?_
    refine zx_aload_n C dX12_lacks_28 1 rfl ?_
    obtain ⟨k18, i19, hm⟩ := ckO_e hm
    obtain ⟨v20, ρ21, h22, hm⟩ := cll_e hm
    refine zx_callV (σ := ρ16) C [] tC_11 k18 i19 Y_X12_freeBlocks W_8_91 W_8_93 Wp_92 (c_X12_freeBlocks h22) (by decide) (by decide) rfl (Nat.le_of_ble_eq_true rfl) dX12_lacks_29 rfl ?_
    refine zx_icmp_le C 39 dX12_lacks_32 (by decide) (fun c23 => ?_) (fun c23 => ?_)
    · replace hm := ip_e hm c23
      exact zx_lv [] [] rfl (j_X12_lacks_39 C htab hin    hm)
    · replace hm := in_e hm c23
      refine zx_iconst (v := 1) C dX12_lacks_35 (by decide) ?_
      refine zx_goto C 40 dX12_lacks_36 (by decide) ?_
      exact zx_lv [] [] rfl (j_X12_lacks_40 C htab hin    hm)
abbrev cX12_putEntry : ByteArray := prog_13_method_51_code
def yX12_putEntry : MethodName := ⟨"SyncTreeModel", "putEntry", "(III)V"⟩
theorem Y_X12_putEntry : tY yX12_putEntry cX12_putEntry 4 none 3 := ⟨W_8_134, W_1_14, ⟨by decide +kernel, by decide +kernel⟩, by decide +kernel⟩
theorem dX12_putEntry_0 : decode cX12_putEntry 0 = .ok (.aload_n 0, 1) := by decide +kernel
theorem dX12_putEntry_1 : decode cX12_putEntry 1 = .ok (.aload_n 0, 1) := by decide +kernel
theorem dX12_putEntry_2 : decode cX12_putEntry 2 = .ok (.iload_n 1, 1) := by decide +kernel
theorem dX12_putEntry_3 : decode cX12_putEntry 3 = .ok (.iload_n 2, 1) := by decide +kernel
theorem dX12_putEntry_4 : decode cX12_putEntry 4 = .ok (.iconst 0, 1) := by decide +kernel
theorem dX12_putEntry_5 : decode cX12_putEntry 5 = .ok (.invokevirtual 295, 3) := by decide +kernel
theorem dX12_putEntry_8 : decode cX12_putEntry 8 = .ok (.iload_n 3, 1) := by decide +kernel
theorem dX12_putEntry_9 : decode cX12_putEntry 9 = .ok (.invokevirtual 30, 3) := by decide +kernel
theorem dX12_putEntry_12 : decode cX12_putEntry 12 = .ok (.aload_n 0, 1) := by decide +kernel
theorem dX12_putEntry_13 : decode cX12_putEntry 13 = .ok (.aload_n 0, 1) := by decide +kernel
theorem dX12_putEntry_14 : decode cX12_putEntry 14 = .ok (.aload_n 0, 1) := by decide +kernel
theorem dX12_putEntry_15 : decode cX12_putEntry 15 = .ok (.iload_n 1, 1) := by decide +kernel
theorem dX12_putEntry_16 : decode cX12_putEntry 16 = .ok (.iload_n 2, 1) := by decide +kernel
theorem dX12_putEntry_17 : decode cX12_putEntry 17 = .ok (.bipush 8, 2) := by decide +kernel
theorem dX12_putEntry_19 : decode cX12_putEntry 19 = .ok (.idiv, 1) := by decide +kernel
theorem dX12_putEntry_20 : decode cX12_putEntry 20 = .ok (.invokevirtual 259, 3) := by decide +kernel
theorem dX12_putEntry_23 : decode cX12_putEntry 23 = .ok (.iconst 1, 1) := by decide +kernel
theorem dX12_putEntry_24 : decode cX12_putEntry 24 = .ok (.isub, 1) := by decide +kernel
theorem dX12_putEntry_25 : decode cX12_putEntry 25 = .ok (.invokevirtual 240, 3) := by decide +kernel
theorem dX12_putEntry_28 : decode cX12_putEntry 28 = .ok (.invokevirtual 34, 3) := by decide +kernel
theorem dX12_putEntry_31 : decode cX12_putEntry 31 = .ok (.return_, 1) := by decide +kernel
set_option maxRecDepth 100000 in
set_option maxHeartbeats 1000000 in
theorem c_X12_putEntry {l : Launch} {D : va_G} {aC : Nat → ClassId} {b0 fu : Nat} {a0 : Nat} {p0 : Int32} {p1 : Int32} {p2 : Int32} {σ τ : tM} {v : Unit} (hm : m_X12_putEntry b0 fu a0 p0 p1 p2 σ = some (v, τ)) : tMt l D aC b0 yX12_putEntry (Cond.code yX12_putEntry cX12_putEntry 4 none) 5 112 [.ref (a0), .int (p0), .int (p1), .int (p2)] σ (.inl none) τ := by
  unfold m_X12_putEntry at hm
  obtain ⟨hg, hm⟩ := grw_e hm
  refine tMt_of (n := 0) rfl (Nat.le_of_ble_eq_true rfl) hg ?_
  intro p e s m below meth c C htab hin
  refine zx_lv [0, 1, 2, 3] [(0, .ref (a0)), (1, .int (p0)), (2, .int (p1)), (3, .int (p2))] rfl ?_
  refine zx_aload_n C dX12_putEntry_0 0 rfl ?_
  refine zx_aload_n C dX12_putEntry_1 0 rfl ?_
  refine zx_iload_n C dX12_putEntry_2 1 rfl ?_
  refine zx_iload_n C dX12_putEntry_3 2 rfl ?_
  refine zx_iconst (v := 0) C dX12_putEntry_4 (by decide) ?_
  obtain ⟨k1, i2, hm⟩ := ckO_e hm
  obtain ⟨v3, ρ4, h5, hm⟩ := cll_e hm
  refine zx_callV (σ := σ) C [.int (p0), .int (p1), .int (0)] tC_11 k1 i2 Y_X12_entryAt W_8_56 W_8_58 Wp_84 (c_X12_entryAt h5) (by decide) (by decide) rfl (Nat.le_of_ble_eq_true rfl) dX12_putEntry_5 rfl ?_
  refine zx_iload_n C dX12_putEntry_8 3 rfl ?_
  obtain ⟨k6, i7, hm⟩ := ckO_e hm
  obtain ⟨v8, ρ9, h10, hm⟩ := cll_e hm
  refine zx_callV (σ := ρ4) C [.int (v3), .int (p2)] tC_11 k6 i7 Y_X12_put W_8_103 W_8_105 Wp_95 (c_X12_put h10) (by decide) (by decide) rfl (Nat.le_of_ble_eq_true rfl) dX12_putEntry_9 rfl ?_
  refine zx_aload_n C dX12_putEntry_12 0 rfl ?_
  refine zx_aload_n C dX12_putEntry_13 0 rfl ?_
  refine zx_aload_n C dX12_putEntry_14 0 rfl ?_
  refine zx_iload_n C dX12_putEntry_15 1 rfl ?_
  refine zx_iload_n C dX12_putEntry_16 2 rfl ?_
  refine zx_bipush (v := 8) C dX12_putEntry_17 (by decide) ?_
  refine zx_idiv C dX12_putEntry_19 (by decide) ?_
  obtain ⟨k11, i12, hm⟩ := ckO_e hm
  obtain ⟨v13, ρ14, h15, hm⟩ := cll_e hm
  refine zx_callV (σ := ρ9) C [.int (p0), .int ((p1) / (8))] tC_11 k11 i12 Y_X12_has W_8_60 W_8_62 Wp_85 (c_X12_has h15) (by decide) (by decide) rfl (Nat.le_of_ble_eq_true rfl) dX12_putEntry_20 rfl ?_
  refine zx_iconst (v := 1) C dX12_putEntry_23 (by decide) ?_
  refine zx_isub C dX12_putEntry_24 ?_
  obtain ⟨k16, i17, hm⟩ := ckO_e hm
  obtain ⟨v18, ρ19, h20, hm⟩ := cll_e hm
  refine zx_callV (σ := ρ14) C [.int ((v13) - (1))] tC_11 k16 i17 Y_X12_numberOf W_8_123 W_8_125 Wp_100 (c_X12_numberOf h20) (by decide) (by decide) rfl (Nat.le_of_ble_eq_true rfl) dX12_putEntry_25 rfl ?_
  obtain ⟨k21, i22, hm⟩ := ckO_e hm
  obtain ⟨v23, ρ24, h25, hm⟩ := cll_e hm
  refine zx_callV (σ := ρ19) C [.int (v18)] tC_11 k21 i22 Y_X12_touch W_8_107 W_8_109 Wp_96 (c_X12_touch h25) (by decide) (by decide) rfl (Nat.le_of_ble_eq_true rfl) dX12_putEntry_28 rfl ?_
  obtain ⟨rfl, rfl⟩ := ret_e hm
  exact zx_vret C rfl rfl rfl dX12_putEntry_31
abbrev cX12_isBare : ByteArray := prog_13_method_53_code
def yX12_isBare : MethodName := ⟨"SyncTreeModel", "isBare", "(II)Z"⟩
theorem Y_X12_isBare : tY yX12_isBare cX12_isBare 4 (some .boolean) 2 := ⟨W_8_166, W_1_14, ⟨by decide +kernel, by decide +kernel⟩, by decide +kernel⟩
theorem dX12_isBare_0 : decode cX12_isBare 0 = .ok (.bipush 8, 2) := by decide +kernel
theorem dX12_isBare_2 : decode cX12_isBare 2 = .ok (.iload_n 2, 1) := by decide +kernel
theorem dX12_isBare_3 : decode cX12_isBare 3 = .ok (.imul, 1) := by decide +kernel
theorem dX12_isBare_4 : decode cX12_isBare 4 = .ok (.istore_n 3, 1) := by decide +kernel
theorem dX12_isBare_5 : decode cX12_isBare 5 = .ok (.iload_n 3, 1) := by decide +kernel
theorem dX12_isBare_6 : decode cX12_isBare 6 = .ok (.bipush 8, 2) := by decide +kernel
theorem dX12_isBare_8 : decode cX12_isBare 8 = .ok (.iload_n 2, 1) := by decide +kernel
theorem dX12_isBare_9 : decode cX12_isBare 9 = .ok (.imul, 1) := by decide +kernel
theorem dX12_isBare_10 : decode cX12_isBare 10 = .ok (.bipush 8, 2) := by decide +kernel
theorem dX12_isBare_12 : decode cX12_isBare 12 = .ok (.iadd, 1) := by decide +kernel
theorem dX12_isBare_13 : decode cX12_isBare 13 = .ok (.if_icmp .ge 22, 3) := by decide +kernel
theorem dX12_isBare_16 : decode cX12_isBare 16 = .ok (.aload_n 0, 1) := by decide +kernel
theorem dX12_isBare_17 : decode cX12_isBare 17 = .ok (.iload_n 1, 1) := by decide +kernel
theorem dX12_isBare_18 : decode cX12_isBare 18 = .ok (.iload_n 3, 1) := by decide +kernel
theorem dX12_isBare_19 : decode cX12_isBare 19 = .ok (.invokevirtual 302, 3) := by decide +kernel
theorem dX12_isBare_22 : decode cX12_isBare 22 = .ok (.bipush 64, 2) := by decide +kernel
theorem dX12_isBare_24 : decode cX12_isBare 24 = .ok (.if_icmp .eq 5, 3) := by decide +kernel
theorem dX12_isBare_27 : decode cX12_isBare 27 = .ok (.iconst 0, 1) := by decide +kernel
theorem dX12_isBare_28 : decode cX12_isBare 28 = .ok (.ireturn, 1) := by decide +kernel
theorem dX12_isBare_29 : decode cX12_isBare 29 = .ok (.iinc 3 1, 3) := by decide +kernel
theorem dX12_isBare_32 : decode cX12_isBare 32 = .ok (.goto (-27), 3) := by decide +kernel
theorem dX12_isBare_35 : decode cX12_isBare 35 = .ok (.iconst 1, 1) := by decide +kernel
theorem dX12_isBare_36 : decode cX12_isBare 36 = .ok (.ireturn, 1) := by decide +kernel
set_option maxRecDepth 100000 in
set_option maxHeartbeats 1000000 in
theorem l_X12_isBare_5 {p : Program} {l : Launch} {e : Env} {s : State} {m : MethodId} {args : Array Value} {below : List Frame} {meth : Method} {c : Code} {D : va_G} {aC : Nat → ClassId} {b0 fu : Nat} {σ0 τ : tM} {v : Int32}  (C : tCx p l s m args meth c yX12_isBare.cls cX12_isBare 4 (some .boolean) D aC b0 σ0) (htab : ∀ x ∈ c.exceptionTable.toList, False) (hin : meth.name = yX12_isBare.name)  : ∀ (n : Nat) (x0 : Nat) (x1 : Int32) (x2 : Int32) (x3 : Int32) (σ : tM), L_X12_isBare_5 b0 fu  n x0 x1 x2 x3 σ = some (v, τ) → tX p l e s m args below meth c 4 6 134 D aC b0 σ0 (.inl (some (.int v))) τ 5 [(0, .ref (x0)), (1, .int (x1)), (2, .int (x2)), (3, .int (x3))] [] σ := by
  intro n
  induction n with
  | zero => intro x0 x1 x2 x3 σ hm; unfold L_X12_isBare_5 at hm; cases hm
  | succ n ih =>
    intro x0 x1 x2 x3 σ hm
    unfold L_X12_isBare_5 at hm
    obtain ⟨rc5, hrc⟩ : ∃ z, z = L_X12_isBare_5 b0 fu  n := ⟨_, rfl⟩
    replace hm := ltb_e hm hrc
    rw [← hrc] at ih
    have hrc5 := ih
    clear ih hrc
    refine zx_iload_n C dX12_isBare_5 3 rfl ?_
    refine zx_bipush (v := 8) C dX12_isBare_6 (by decide) ?_
    refine zx_iload_n C dX12_isBare_8 2 rfl ?_
    refine zx_imul C dX12_isBare_9 ?_
    refine zx_bipush (v := 8) C dX12_isBare_10 (by decide) ?_
    refine zx_iadd C dX12_isBare_12 ?_
    refine zx_icmp_ge C 35 dX12_isBare_13 (by decide) (fun c2 => ?_) (fun c2 => ?_)
    · replace hm := ip_e hm c2
      refine zx_iconst (v := 1) C dX12_isBare_35 (by decide) ?_
      obtain ⟨rfl, rfl⟩ := ret_e hm
      exact zx_zret C rfl (by decide) rfl rfl dX12_isBare_36
    · replace hm := in_e hm c2
      refine zx_aload_n C dX12_isBare_16 0 rfl ?_
      refine zx_iload_n C dX12_isBare_17 1 rfl ?_
      refine zx_iload_n C dX12_isBare_18 3 rfl ?_
      obtain ⟨k3, i4, hm⟩ := ckO_e hm
      obtain ⟨v5, ρ6, h7, hm⟩ := cll_e hm
      refine zx_callV (σ := σ) C [.int (x1), .int (x3)] tC_11 k3 i4 Y_X12_entryNode W_8_52 W_8_54 Wp_83 (c_X12_entryNode h7) (by decide) (by decide) rfl (Nat.le_of_ble_eq_true rfl) dX12_isBare_19 rfl ?_
      refine zx_bipush (v := 64) C dX12_isBare_22 (by decide) ?_
      refine zx_icmp_eq C 29 dX12_isBare_24 (by decide) (fun c8 => ?_) (fun c8 => ?_)
      · replace hm := ip_e hm c8
        obtain ⟨y9, hy9⟩ : ∃ z : Int32, z = (x3) + Int32.ofInt 1 := ⟨_, rfl⟩
        replace hm := ltb_e hm hy9
        refine zx_iinc C [(3, .int (y9)), (0, .ref (x0)), (1, .int (x1)), (2, .int (x2))] dX12_isBare_29 3 rfl hy9.symm (by decide) rfl ?_
        refine zx_goto C 5 dX12_isBare_32 (by decide) ?_
        exact zx_lv [1, 2, 3, 0] [(0, .ref (x0)), (1, .int (x1)), (2, .int (x2)), (3, .int (y9))] rfl (hrc5 _ _ _ _ _ hm)
      · replace hm := in_e hm c8
        refine zx_iconst (v := 0) C dX12_isBare_27 (by decide) ?_
        obtain ⟨rfl, rfl⟩ := ret_e hm
        exact zx_zret C rfl (by decide) rfl rfl dX12_isBare_28
set_option maxRecDepth 100000 in
set_option maxHeartbeats 1000000 in
theorem c_X12_isBare {l : Launch} {D : va_G} {aC : Nat → ClassId} {b0 fu : Nat} {a0 : Nat} {p0 : Int32} {p1 : Int32} {σ τ : tM} {v : Int32} (hm : m_X12_isBare b0 fu a0 p0 p1 σ = some (v, τ)) : tMt l D aC b0 yX12_isBare (Cond.code yX12_isBare cX12_isBare 4 (some .boolean)) 6 134 [.ref (a0), .int (p0), .int (p1)] σ (.inl (some (.int v))) τ := by
  unfold m_X12_isBare at hm
  obtain ⟨hg, hm⟩ := grw_e hm
  refine tMt_of (n := 0) rfl (Nat.le_of_ble_eq_true rfl) hg ?_
  intro p e s m below meth c C htab hin
  refine zx_lv [0, 1, 2] [(0, .ref (a0)), (1, .int (p0)), (2, .int (p1))] rfl ?_
  refine zx_bipush (v := 8) C dX12_isBare_0 (by decide) ?_
  refine zx_iload_n C dX12_isBare_2 2 rfl ?_
  refine zx_imul C dX12_isBare_3 ?_
  refine zx_topi (fun y1 hy1 => ?_)
  replace hm := ltb_e hm hy1
  refine zx_istore_n C [(3, .int (y1)), (0, .ref (a0)), (1, .int (p0)), (2, .int (p1))] dX12_isBare_4 rfl (by decide) rfl ?_
  exact zx_lv [1, 2, 3, 0] [(0, .ref (a0)), (1, .int (p0)), (2, .int (p1)), (3, .int (y1))] rfl (l_X12_isBare_5 C htab hin  _ _ _ _ _ _ hm)
abbrev cX12_begin : ByteArray := prog_13_method_55_code
def yX12_begin : MethodName := ⟨"SyncTreeModel", "begin", "(II)V"⟩
theorem Y_X12_begin : tY yX12_begin cX12_begin 3 none 2 := ⟨W_8_31, W_1_14, ⟨by decide +kernel, by decide +kernel⟩, by decide +kernel⟩
theorem dX12_begin_0 : decode cX12_begin 0 = .ok (.aload_n 0, 1) := by decide +kernel
theorem dX12_begin_1 : decode cX12_begin 1 = .ok (.getfield 323, 3) := by decide +kernel
theorem dX12_begin_4 : decode cX12_begin 4 = .ok (.iload_n 1, 1) := by decide +kernel
theorem dX12_begin_5 : decode cX12_begin 5 = .ok (.aaload, 1) := by decide +kernel
theorem dX12_begin_6 : decode cX12_begin 6 = .ok (.iconst 0, 1) := by decide +kernel
theorem dX12_begin_7 : decode cX12_begin 7 = .ok (.aload_n 0, 1) := by decide +kernel
theorem dX12_begin_8 : decode cX12_begin 8 = .ok (.getfield 327, 3) := by decide +kernel
theorem dX12_begin_11 : decode cX12_begin 11 = .ok (.iconst 0, 1) := by decide +kernel
theorem dX12_begin_12 : decode cX12_begin 12 = .ok (.iload_n 2, 1) := by decide +kernel
theorem dX12_begin_13 : decode cX12_begin 13 = .ok (.invokestatic 7, 3) := by decide +kernel
theorem dX12_begin_16 : decode cX12_begin 16 = .ok (.aload_n 0, 1) := by decide +kernel
theorem dX12_begin_17 : decode cX12_begin 17 = .ok (.iload_n 2, 1) := by decide +kernel
theorem dX12_begin_18 : decode cX12_begin 18 = .ok (.putfield 330, 3) := by decide +kernel
theorem dX12_begin_21 : decode cX12_begin 21 = .ok (.return_, 1) := by decide +kernel
set_option maxRecDepth 100000 in
set_option maxHeartbeats 1000000 in
theorem c_X12_begin {l : Launch} {D : va_G} {aC : Nat → ClassId} {b0 fu : Nat} {a0 : Nat} {p0 : Int32} {p1 : Int32} {σ τ : tM} {v : Unit} (hm : m_X12_begin b0 fu a0 p0 p1 σ = some (v, τ)) : tMt l D aC b0 yX12_begin (Cond.code yX12_begin cX12_begin 3 none) 1 26 [.ref (a0), .int (p0), .int (p1)] σ (.inl none) τ := by
  unfold m_X12_begin at hm
  obtain ⟨hg, hm⟩ := grw_e hm
  refine tMt_of (n := 0) rfl (Nat.le_of_ble_eq_true rfl) hg ?_
  intro p e s m below meth c C htab hin
  refine zx_lv [0, 1, 2] [(0, .ref (a0)), (1, .int (p0)), (2, .int (p1))] rfl ?_
  refine zx_aload_n C dX12_begin_0 0 rfl ?_
  obtain ⟨k1, i2, hm⟩ := ckO_e hm
  obtain ⟨a3, h4, hm⟩ := osm_e hm
  refine zx_get (j := 47) C tC_11 k1 i2 ⟨by decide, Or.inl W_7_26⟩ dX12_begin_1 (.ref a3) (rf_s h4) ?_
  refine zx_iload_n C dX12_begin_4 1 rfl ?_
  obtain ⟨n7, k5, i6, hm⟩ := ckR_e hm
  obtain ⟨h8, hm⟩ := ckI_e hm
  obtain ⟨a9, h10, hm⟩ := osm_e hm
  refine zx_aald5 C k5 i6 h8 dX12_begin_5 (.ref a9) (rf_s h10) ?_
  refine zx_iconst (v := 0) C dX12_begin_6 (by decide) ?_
  refine zx_aload_n C dX12_begin_7 0 rfl ?_
  obtain ⟨a11, h12, hm⟩ := osm_e hm
  refine zx_get (j := 49) C tC_11 k1 i2 ⟨by decide, Or.inl W_7_28⟩ dX12_begin_8 (.ref a11) (rf_s h12) ?_
  refine zx_iconst (v := 0) C dX12_begin_11 (by decide) ?_
  refine zx_iload_n C dX12_begin_12 2 rfl ?_
  obtain ⟨n15, k13, i14, hm⟩ := ckR_e hm
  obtain ⟨n18, k16, i17, hm⟩ := ckR_e hm
  obtain ⟨h19, hm⟩ := ckC_e hm
  obtain ⟨h29, hm⟩ := ckF_e hm
  refine zx_copyB (σ := σ) C W_7_169 W_2_135 W_2_134 W_1_11 k13 i14 k16 i17 h19 h29 (by decide) (by decide) (Nat.le_of_ble_eq_true rfl) dX12_begin_13 ?_
  refine zx_mem (fun ρ20 hρ20 => ?_)
  replace hm := ltb_e hm hρ20
  have k21 : tk ρ20 (a0) = .inl 11 := by rw [hρ20]; exact k1
  have i22 : tIn b0 ρ20 (a0) := by rw [hρ20]; exact i2
  have k23 : tk ρ20 (a3) = .inr (5, n7) := by rw [hρ20]; exact k5
  have i24 : tIn b0 ρ20 (a3) := by rw [hρ20]; exact i6
  have k25 : tk ρ20 (a9) = .inr (1, n15) := by rw [hρ20]; exact k13
  have i26 : tIn b0 ρ20 (a9) := by rw [hρ20]; exact i14
  have k27 : tk ρ20 (a11) = .inr (1, n18) := by rw [hρ20]; exact k16
  have i28 : tIn b0 ρ20 (a11) := by rw [hρ20]; exact i17
  refine zx_aload_n C dX12_begin_16 0 rfl ?_
  refine zx_iload_n C dX12_begin_17 2 rfl ?_
  refine zx_put (j := 51) (ρ := sI (ρ20) (a0) 51 (p1)) C tC_11 k21 i22 ⟨by decide, Or.inl W_7_30⟩ rfl rfl rfl (sI_ok (fun _ => rfl)) dX12_begin_18 ?_
  obtain ⟨rfl, rfl⟩ := ret_e hm
  exact zx_vret C rfl rfl rfl dX12_begin_21
abbrev cX12_behind : ByteArray := prog_13_method_56_code
def yX12_behind : MethodName := ⟨"SyncTreeModel", "behind", "(I)I"⟩
theorem Y_X12_behind : tY yX12_behind cX12_behind 3 (some .int) 1 := ⟨W_8_39, W_1_14, ⟨by decide +kernel, by decide +kernel⟩, by decide +kernel⟩
theorem dX12_behind_0 : decode cX12_behind 0 = .ok (.iload_n 1, 1) := by decide +kernel
theorem dX12_behind_1 : decode cX12_behind 1 = .ok (.istore_n 2, 1) := by decide +kernel
theorem dX12_behind_2 : decode cX12_behind 2 = .ok (.iload_n 2, 1) := by decide +kernel
theorem dX12_behind_3 : decode cX12_behind 3 = .ok (.aload_n 0, 1) := by decide +kernel
theorem dX12_behind_4 : decode cX12_behind 4 = .ok (.getfield 330, 3) := by decide +kernel
theorem dX12_behind_7 : decode cX12_behind 7 = .ok (.if_icmp .ge 20, 3) := by decide +kernel
theorem dX12_behind_10 : decode cX12_behind 10 = .ok (.aload_n 0, 1) := by decide +kernel
theorem dX12_behind_11 : decode cX12_behind 11 = .ok (.getfield 327, 3) := by decide +kernel
theorem dX12_behind_14 : decode cX12_behind 14 = .ok (.iload_n 2, 1) := by decide +kernel
theorem dX12_behind_15 : decode cX12_behind 15 = .ok (.baload, 1) := by decide +kernel
theorem dX12_behind_16 : decode cX12_behind 16 = .ok (.bipush 47, 2) := by decide +kernel
theorem dX12_behind_18 : decode cX12_behind 18 = .ok (.if_icmp .ne 9, 3) := by decide +kernel
theorem dX12_behind_21 : decode cX12_behind 21 = .ok (.iinc 2 1, 3) := by decide +kernel
theorem dX12_behind_24 : decode cX12_behind 24 = .ok (.goto (-22), 3) := by decide +kernel
theorem dX12_behind_27 : decode cX12_behind 27 = .ok (.iload_n 2, 1) := by decide +kernel
theorem dX12_behind_28 : decode cX12_behind 28 = .ok (.ireturn, 1) := by decide +kernel
set_option maxRecDepth 100000 in
set_option maxHeartbeats 1000000 in
theorem j_X12_behind_27 {p : Program} {l : Launch} {e : Env} {s : State} {m : MethodId} {args : Array Value} {below : List Frame} {meth : Method} {c : Code} {D : va_G} {aC : Nat → ClassId} {b0 fu : Nat} {σ0 τ : tM} {v : Int32}  (C : tCx p l s m args meth c yX12_behind.cls cX12_behind 3 (some .int) D aC b0 σ0) (htab : ∀ x ∈ c.exceptionTable.toList, False) (hin : meth.name = yX12_behind.name)  {x2 : Int32} {σ : tM} (hm : J_X12_behind_27 b0 fu  x2 σ = some (v, τ)) : tX p l e s m args below meth c 3 0 0 D aC b0 σ0 (.inl (some (.int v))) τ 27 [(2, .int (x2))] [] σ := by
  unfold J_X12_behind_27 at hm
  refine zx_iload_n C dX12_behind_27 0 rfl ?_
  obtain ⟨rfl, rfl⟩ := ret_e hm
  exact zx_iret C rfl rfl rfl dX12_behind_28
set_option maxRecDepth 100000 in
set_option maxHeartbeats 1000000 in
theorem l_X12_behind_2 {p : Program} {l : Launch} {e : Env} {s : State} {m : MethodId} {args : Array Value} {below : List Frame} {meth : Method} {c : Code} {D : va_G} {aC : Nat → ClassId} {b0 fu : Nat} {σ0 τ : tM} {v : Int32}  (C : tCx p l s m args meth c yX12_behind.cls cX12_behind 3 (some .int) D aC b0 σ0) (htab : ∀ x ∈ c.exceptionTable.toList, False) (hin : meth.name = yX12_behind.name)  : ∀ (n : Nat) (x0 : Nat) (x2 : Int32) (σ : tM), L_X12_behind_2 b0 fu  n x0 x2 σ = some (v, τ) → tX p l e s m args below meth c 3 0 0 D aC b0 σ0 (.inl (some (.int v))) τ 2 [(0, .ref (x0)), (2, .int (x2))] [] σ := by
  intro n
  induction n with
  | zero => intro x0 x2 σ hm; unfold L_X12_behind_2 at hm; cases hm
  | succ n ih =>
    intro x0 x2 σ hm
    unfold L_X12_behind_2 at hm
    obtain ⟨rc2, hrc⟩ : ∃ z, z = L_X12_behind_2 b0 fu  n := ⟨_, rfl⟩
    replace hm := ltb_e hm hrc
    rw [← hrc] at ih
    have hrc2 := ih
    clear ih hrc
    refine zx_iload_n C dX12_behind_2 1 rfl ?_
    refine zx_aload_n C dX12_behind_3 0 rfl ?_
    obtain ⟨k1, i2, hm⟩ := ckO_e hm
    refine zx_get (j := 51) C tC_11 k1 i2 ⟨by decide, Or.inl W_7_30⟩ dX12_behind_4 (.int (tI (σ) (x0) 51)) rfl ?_
    refine zx_icmp_ge C 27 dX12_behind_7 (by decide) (fun c3 => ?_) (fun c3 => ?_)
    · replace hm := ip_e hm c3
      exact zx_lv [1] [(2, .int (x2))] rfl (j_X12_behind_27 C htab hin    hm)
    · replace hm := in_e hm c3
      refine zx_aload_n C dX12_behind_10 0 rfl ?_
      obtain ⟨a4, h5, hm⟩ := osm_e hm
      refine zx_get (j := 49) C tC_11 k1 i2 ⟨by decide, Or.inl W_7_28⟩ dX12_behind_11 (.ref a4) (rf_s h5) ?_
      refine zx_iload_n C dX12_behind_14 1 rfl ?_
      obtain ⟨n8, k6, i7, hm⟩ := ckR_e hm
      obtain ⟨h9, hm⟩ := ckI_e hm
      refine zx_bald C k6 i7 h9 dX12_behind_15 ?_
      refine zx_bipush (v := 47) C dX12_behind_16 (by decide) ?_
      refine zx_icmp_ne C 27 dX12_behind_18 (by decide) (fun c10 => ?_) (fun c10 => ?_)
      · replace hm := in_e hm c10
        exact zx_lv [1] [(2, .int (x2))] rfl (j_X12_behind_27 C htab hin    hm)
      · replace hm := ip_e hm c10
        obtain ⟨y11, hy11⟩ : ∃ z : Int32, z = (x2) + Int32.ofInt 1 := ⟨_, rfl⟩
        replace hm := ltb_e hm hy11
        refine zx_iinc C [(2, .int (y11)), (0, .ref (x0))] dX12_behind_21 1 rfl hy11.symm (by decide) rfl ?_
        refine zx_goto C 2 dX12_behind_24 (by decide) ?_
        exact zx_lv [1, 0] [(0, .ref (x0)), (2, .int (y11))] rfl (hrc2 _ _ _ hm)
set_option maxRecDepth 100000 in
set_option maxHeartbeats 1000000 in
theorem c_X12_behind {l : Launch} {D : va_G} {aC : Nat → ClassId} {b0 fu : Nat} {a0 : Nat} {p0 : Int32} {σ τ : tM} {v : Int32} (hm : m_X12_behind b0 fu a0 p0 σ = some (v, τ)) : tMt l D aC b0 yX12_behind (Cond.code yX12_behind cX12_behind 3 (some .int)) 0 0 [.ref (a0), .int (p0)] σ (.inl (some (.int v))) τ := by
  unfold m_X12_behind at hm
  obtain ⟨hg, hm⟩ := grw_e hm
  refine tMt_of (n := 0) rfl (Nat.le_of_ble_eq_true rfl) hg ?_
  intro p e s m below meth c C htab hin
  refine zx_lv [0, 1] [(0, .ref (a0)), (1, .int (p0))] rfl ?_
  refine zx_iload_n C dX12_behind_0 1 rfl ?_
  refine zx_istore_n C [(2, .int (p0)), (0, .ref (a0)), (1, .int (p0))] dX12_behind_1 rfl (by decide) rfl ?_
  exact zx_lv [1, 0] [(0, .ref (a0)), (2, .int (p0))] rfl (l_X12_behind_2 C htab hin  _ _ _ _ hm)
abbrev cX12_expand : ByteArray := prog_13_method_57_code
def yX12_expand : MethodName := ⟨"SyncTreeModel", "expand", "(II)V"⟩
theorem Y_X12_expand : tY yX12_expand cX12_expand 6 none 2 := ⟨W_8_78, W_1_14, ⟨by decide +kernel, by decide +kernel⟩, by decide +kernel⟩
theorem dX12_expand_0 : decode cX12_expand 0 = .ok (.aload_n 0, 1) := by decide +kernel
theorem dX12_expand_1 : decode cX12_expand 1 = .ok (.getfield 333, 3) := by decide +kernel
theorem dX12_expand_4 : decode cX12_expand 4 = .ok (.astore_n 3, 1) := by decide +kernel
theorem dX12_expand_5 : decode cX12_expand 5 = .ok (.aload_n 0, 1) := by decide +kernel
theorem dX12_expand_6 : decode cX12_expand 6 = .ok (.iload_n 1, 1) := by decide +kernel
theorem dX12_expand_7 : decode cX12_expand 7 = .ok (.iconst 4, 1) := by decide +kernel
theorem dX12_expand_8 : decode cX12_expand 8 = .ok (.invokevirtual 247, 3) := by decide +kernel
theorem dX12_expand_11 : decode cX12_expand 11 = .ok (.istore 4, 2) := by decide +kernel
theorem dX12_expand_13 : decode cX12_expand 13 = .ok (.iconst 0, 1) := by decide +kernel
theorem dX12_expand_14 : decode cX12_expand 14 = .ok (.istore 5, 2) := by decide +kernel
theorem dX12_expand_16 : decode cX12_expand 16 = .ok (.iload 5, 2) := by decide +kernel
theorem dX12_expand_18 : decode cX12_expand 18 = .ok (.iload 4, 2) := by decide +kernel
theorem dX12_expand_20 : decode cX12_expand 20 = .ok (.if_icmp .ge 23, 3) := by decide +kernel
theorem dX12_expand_23 : decode cX12_expand 23 = .ok (.aload_n 3, 1) := by decide +kernel
theorem dX12_expand_24 : decode cX12_expand 24 = .ok (.iload 5, 2) := by decide +kernel
theorem dX12_expand_26 : decode cX12_expand 26 = .ok (.aload_n 0, 1) := by decide +kernel
theorem dX12_expand_27 : decode cX12_expand 27 = .ok (.iload_n 1, 1) := by decide +kernel
theorem dX12_expand_28 : decode cX12_expand 28 = .ok (.iconst 5, 1) := by decide +kernel
theorem dX12_expand_29 : decode cX12_expand 29 = .ok (.iload 5, 2) := by decide +kernel
theorem dX12_expand_31 : decode cX12_expand 31 = .ok (.iadd, 1) := by decide +kernel
theorem dX12_expand_32 : decode cX12_expand 32 = .ok (.invokevirtual 247, 3) := by decide +kernel
theorem dX12_expand_35 : decode cX12_expand 35 = .ok (.i2b, 1) := by decide +kernel
theorem dX12_expand_36 : decode cX12_expand 36 = .ok (.bastore, 1) := by decide +kernel
theorem dX12_expand_37 : decode cX12_expand 37 = .ok (.iinc 5 1, 3) := by decide +kernel
theorem dX12_expand_40 : decode cX12_expand 40 = .ok (.goto (-24), 3) := by decide +kernel
theorem dX12_expand_43 : decode cX12_expand 43 = .ok (.aload_n 3, 1) := by decide +kernel
theorem dX12_expand_44 : decode cX12_expand 44 = .ok (.iload 4, 2) := by decide +kernel
theorem dX12_expand_46 : decode cX12_expand 46 = .ok (.bipush 47, 2) := by decide +kernel
theorem dX12_expand_48 : decode cX12_expand 48 = .ok (.bastore, 1) := by decide +kernel
theorem dX12_expand_49 : decode cX12_expand 49 = .ok (.aload_n 0, 1) := by decide +kernel
theorem dX12_expand_50 : decode cX12_expand 50 = .ok (.getfield 330, 3) := by decide +kernel
theorem dX12_expand_53 : decode cX12_expand 53 = .ok (.iload_n 2, 1) := by decide +kernel
theorem dX12_expand_54 : decode cX12_expand 54 = .ok (.isub, 1) := by decide +kernel
theorem dX12_expand_55 : decode cX12_expand 55 = .ok (.istore 5, 2) := by decide +kernel
theorem dX12_expand_57 : decode cX12_expand 57 = .ok (.aload_n 0, 1) := by decide +kernel
theorem dX12_expand_58 : decode cX12_expand 58 = .ok (.getfield 327, 3) := by decide +kernel
theorem dX12_expand_61 : decode cX12_expand 61 = .ok (.iload_n 2, 1) := by decide +kernel
theorem dX12_expand_62 : decode cX12_expand 62 = .ok (.aload_n 3, 1) := by decide +kernel
theorem dX12_expand_63 : decode cX12_expand 63 = .ok (.iload 4, 2) := by decide +kernel
theorem dX12_expand_65 : decode cX12_expand 65 = .ok (.iconst 1, 1) := by decide +kernel
theorem dX12_expand_66 : decode cX12_expand 66 = .ok (.iadd, 1) := by decide +kernel
theorem dX12_expand_67 : decode cX12_expand 67 = .ok (.iload 5, 2) := by decide +kernel
theorem dX12_expand_69 : decode cX12_expand 69 = .ok (.invokestatic 7, 3) := by decide +kernel
theorem dX12_expand_72 : decode cX12_expand 72 = .ok (.aload_n 0, 1) := by decide +kernel
theorem dX12_expand_73 : decode cX12_expand 73 = .ok (.aload_n 0, 1) := by decide +kernel
theorem dX12_expand_74 : decode cX12_expand 74 = .ok (.getfield 327, 3) := by decide +kernel
theorem dX12_expand_77 : decode cX12_expand 77 = .ok (.putfield 333, 3) := by decide +kernel
theorem dX12_expand_80 : decode cX12_expand 80 = .ok (.aload_n 0, 1) := by decide +kernel
theorem dX12_expand_81 : decode cX12_expand 81 = .ok (.aload_n 3, 1) := by decide +kernel
theorem dX12_expand_82 : decode cX12_expand 82 = .ok (.putfield 327, 3) := by decide +kernel
theorem dX12_expand_85 : decode cX12_expand 85 = .ok (.aload_n 0, 1) := by decide +kernel
theorem dX12_expand_86 : decode cX12_expand 86 = .ok (.iload 4, 2) := by decide +kernel
theorem dX12_expand_88 : decode cX12_expand 88 = .ok (.iconst 1, 1) := by decide +kernel
theorem dX12_expand_89 : decode cX12_expand 89 = .ok (.iadd, 1) := by decide +kernel
theorem dX12_expand_90 : decode cX12_expand 90 = .ok (.iload 5, 2) := by decide +kernel
theorem dX12_expand_92 : decode cX12_expand 92 = .ok (.iadd, 1) := by decide +kernel
theorem dX12_expand_93 : decode cX12_expand 93 = .ok (.putfield 330, 3) := by decide +kernel
theorem dX12_expand_96 : decode cX12_expand 96 = .ok (.return_, 1) := by decide +kernel
set_option maxRecDepth 100000 in
set_option maxHeartbeats 1000000 in
theorem l_X12_expand_16 {p : Program} {l : Launch} {e : Env} {s : State} {m : MethodId} {args : Array Value} {below : List Frame} {meth : Method} {c : Code} {D : va_G} {aC : Nat → ClassId} {b0 fu : Nat} {σ0 τ : tM} {v : Unit}  (C : tCx p l s m args meth c yX12_expand.cls cX12_expand 6 none D aC b0 σ0) (htab : ∀ x ∈ c.exceptionTable.toList, False) (hin : meth.name = yX12_expand.name)  : ∀ (n : Nat) (x0 : Nat) (x1 : Int32) (x2 : Int32) (x3 : Nat) (x4 : Int32) (x5 : Int32) (σ : tM), L_X12_expand_16 b0 fu  n x0 x1 x2 x3 x4 x5 σ = some (v, τ) → tX p l e s m args below meth c 6 1 26 D aC b0 σ0 (.inl none) τ 16 [(0, .ref (x0)), (1, .int (x1)), (2, .int (x2)), (3, .ref (x3)), (4, .int (x4)), (5, .int (x5))] [] σ := by
  intro n
  induction n with
  | zero => intro x0 x1 x2 x3 x4 x5 σ hm; unfold L_X12_expand_16 at hm; cases hm
  | succ n ih =>
    intro x0 x1 x2 x3 x4 x5 σ hm
    unfold L_X12_expand_16 at hm
    obtain ⟨rc16, hrc⟩ : ∃ z, z = L_X12_expand_16 b0 fu  n := ⟨_, rfl⟩
    replace hm := ltb_e hm hrc
    rw [← hrc] at ih
    have hrc16 := ih
    clear ih hrc
    refine zx_iload C dX12_expand_16 5 rfl ?_
    refine zx_iload C dX12_expand_18 4 rfl ?_
    refine zx_icmp_ge C 43 dX12_expand_20 (by decide) (fun c8 => ?_) (fun c8 => ?_)
    · replace hm := ip_e hm c8
      refine zx_aload_n C dX12_expand_43 3 rfl ?_
      refine zx_iload C dX12_expand_44 4 rfl ?_
      refine zx_bipush (v := 47) C dX12_expand_46 (by decide) ?_
      obtain ⟨n11, k9, i10, hm⟩ := ckR_e hm
      obtain ⟨h12, hm⟩ := ckI_e hm
      refine zx_bast C k9 i10 h12 dX12_expand_48 ?_
      refine zx_aload_n C dX12_expand_49 0 rfl ?_
      obtain ⟨k13, i14, hm⟩ := ckO_e hm
      refine zx_get (j := 51) C tC_11 k13 i14 ⟨by decide, Or.inl W_7_30⟩ dX12_expand_50 (.int (tI (sI (σ) (x3) ((x4).toNatClampNeg) (vp_nar .byte ((47 : Int32)))) (x0) 51)) rfl ?_
      refine zx_iload_n C dX12_expand_53 2 rfl ?_
      refine zx_isub C dX12_expand_54 ?_
      refine zx_topi (fun y15 hy15 => ?_)
      replace hm := ltb_e hm hy15
      refine zx_istore C [(5, .int (y15)), (0, .ref (x0)), (1, .int (x1)), (2, .int (x2)), (3, .ref (x3)), (4, .int (x4))] dX12_expand_55 (by decide) rfl ?_
      refine zx_aload_n C dX12_expand_57 1 rfl ?_
      obtain ⟨a16, h17, hm⟩ := osm_e hm
      refine zx_get (j := 49) C tC_11 k13 i14 ⟨by decide, Or.inl W_7_28⟩ dX12_expand_58 (.ref a16) (rf_s h17) ?_
      refine zx_iload_n C dX12_expand_61 3 rfl ?_
      refine zx_aload_n C dX12_expand_62 4 rfl ?_
      refine zx_iload C dX12_expand_63 5 rfl ?_
      refine zx_iconst (v := 1) C dX12_expand_65 (by decide) ?_
      refine zx_iadd C dX12_expand_66 ?_
      refine zx_iload C dX12_expand_67 0 rfl ?_
      obtain ⟨n20, k18, i19, hm⟩ := ckR_e hm
      obtain ⟨h21, hm⟩ := ckC_e hm
      obtain ⟨h31, hm⟩ := ckF_e hm
      refine zx_copyB (σ := sI (σ) (x3) ((x4).toNatClampNeg) (vp_nar .byte ((47 : Int32)))) C W_7_169 W_2_135 W_2_134 W_1_11 k18 i19 k9 i10 h21 h31 (by decide) (by decide) (Nat.le_of_ble_eq_true rfl) dX12_expand_69 ?_
      refine zx_mem (fun ρ22 hρ22 => ?_)
      replace hm := ltb_e hm hρ22
      have k23 : tk ρ22 (x3) = .inr (1, n11) := by rw [hρ22]; exact k9
      have i24 : tIn b0 ρ22 (x3) := by rw [hρ22]; exact i10
      have k25 : tk ρ22 (x0) = .inl 11 := by rw [hρ22]; exact k13
      have i26 : tIn b0 ρ22 (x0) := by rw [hρ22]; exact i14
      have k27 : tk ρ22 (a16) = .inr (1, n20) := by rw [hρ22]; exact k18
      have i28 : tIn b0 ρ22 (a16) := by rw [hρ22]; exact i19
      refine zx_aload_n C dX12_expand_72 1 rfl ?_
      refine zx_aload_n C dX12_expand_73 1 rfl ?_
      obtain ⟨a29, h30, hm⟩ := osm_e hm
      refine zx_get (j := 49) C tC_11 k25 i26 ⟨by decide, Or.inl W_7_28⟩ dX12_expand_74 (.ref a29) (rf_s h30) ?_
      refine zx_put (j := 50) (ρ := sA (ρ22) (x0) 50 (some (a29))) C tC_11 k25 i26 ⟨by decide, Or.inl W_7_29⟩ rfl rfl rfl (sA_ok (fun _ => rfl)) dX12_expand_77 ?_
      refine zx_aload_n C dX12_expand_80 1 rfl ?_
      refine zx_aload_n C dX12_expand_81 4 rfl ?_
      refine zx_put (j := 49) (ρ := sA (sA (ρ22) (x0) 50 (some (a29))) (x0) 49 (some (x3))) C tC_11 k25 i26 ⟨by decide, Or.inl W_7_28⟩ rfl rfl rfl (sA_ok (fun _ => rfl)) dX12_expand_82 ?_
      refine zx_aload_n C dX12_expand_85 1 rfl ?_
      refine zx_iload C dX12_expand_86 5 rfl ?_
      refine zx_iconst (v := 1) C dX12_expand_88 (by decide) ?_
      refine zx_iadd C dX12_expand_89 ?_
      refine zx_iload C dX12_expand_90 0 rfl ?_
      refine zx_iadd C dX12_expand_92 ?_
      refine zx_put (j := 51) (ρ := sI (sA (sA (ρ22) (x0) 50 (some (a29))) (x0) 49 (some (x3))) (x0) 51 (((x4) + (1)) + (y15))) C tC_11 k25 i26 ⟨by decide, Or.inl W_7_30⟩ rfl rfl rfl (sI_ok (fun _ => rfl)) dX12_expand_93 ?_
      obtain ⟨rfl, rfl⟩ := ret_e hm
      exact zx_vret C rfl rfl rfl dX12_expand_96
    · replace hm := in_e hm c8
      refine zx_aload_n C dX12_expand_23 3 rfl ?_
      refine zx_iload C dX12_expand_24 5 rfl ?_
      refine zx_aload_n C dX12_expand_26 0 rfl ?_
      refine zx_iload_n C dX12_expand_27 1 rfl ?_
      refine zx_iconst (v := 5) C dX12_expand_28 (by decide) ?_
      refine zx_iload C dX12_expand_29 5 rfl ?_
      refine zx_iadd C dX12_expand_31 ?_
      obtain ⟨k32, i33, hm⟩ := ckO_e hm
      obtain ⟨v34, ρ35, h36, hm⟩ := cll_e hm
      refine zx_callV (σ := σ) C [.int (x1), .int ((5) + (x5))] tC_11 k32 i33 Y_X12_node W_8_40 W_8_42 Wp_80 (c_X12_node h36) (by decide) (by decide) rfl (Nat.le_of_ble_eq_true rfl) dX12_expand_32 rfl ?_
      refine zx_i2b C dX12_expand_35 ?_
      obtain ⟨n39, k37, i38, hm⟩ := ckR_e hm
      obtain ⟨h40, hm⟩ := ckI_e hm
      refine zx_bast C k37 i38 h40 dX12_expand_36 ?_
      obtain ⟨y41, hy41⟩ : ∃ z : Int32, z = (x5) + Int32.ofInt 1 := ⟨_, rfl⟩
      replace hm := ltb_e hm hy41
      refine zx_iinc C [(5, .int (y41)), (0, .ref (x0)), (1, .int (x1)), (2, .int (x2)), (3, .ref (x3)), (4, .int (x4))] dX12_expand_37 5 rfl hy41.symm (by decide) rfl ?_
      refine zx_goto C 16 dX12_expand_40 (by decide) ?_
      exact zx_lv [1, 2, 3, 4, 5, 0] [(0, .ref (x0)), (1, .int (x1)), (2, .int (x2)), (3, .ref (x3)), (4, .int (x4)), (5, .int (y41))] rfl (hrc16 _ _ _ _ _ _ _ hm)
set_option maxRecDepth 100000 in
set_option maxHeartbeats 1000000 in
theorem c_X12_expand {l : Launch} {D : va_G} {aC : Nat → ClassId} {b0 fu : Nat} {a0 : Nat} {p0 : Int32} {p1 : Int32} {σ τ : tM} {v : Unit} (hm : m_X12_expand b0 fu a0 p0 p1 σ = some (v, τ)) : tMt l D aC b0 yX12_expand (Cond.code yX12_expand cX12_expand 6 none) 1 26 [.ref (a0), .int (p0), .int (p1)] σ (.inl none) τ := by
  unfold m_X12_expand at hm
  obtain ⟨hg, hm⟩ := grw_e hm
  refine tMt_of (n := 0) rfl (Nat.le_of_ble_eq_true rfl) hg ?_
  intro p e s m below meth c C htab hin
  refine zx_lv [0, 1, 2] [(0, .ref (a0)), (1, .int (p0)), (2, .int (p1))] rfl ?_
  refine zx_aload_n C dX12_expand_0 0 rfl ?_
  obtain ⟨k1, i2, hm⟩ := ckO_e hm
  obtain ⟨a3, h4, hm⟩ := osm_e hm
  refine zx_get (j := 50) C tC_11 k1 i2 ⟨by decide, Or.inl W_7_29⟩ dX12_expand_1 (.ref a3) (rf_s h4) ?_
  refine zx_astore_n C [(3, .ref (a3)), (0, .ref (a0)), (1, .int (p0)), (2, .int (p1))] dX12_expand_4 rfl (by decide) rfl ?_
  refine zx_aload_n C dX12_expand_5 1 rfl ?_
  refine zx_iload_n C dX12_expand_6 2 rfl ?_
  refine zx_iconst (v := 4) C dX12_expand_7 (by decide) ?_
  obtain ⟨v5, ρ6, h7, hm⟩ := cll_e hm
  refine zx_callV (σ := σ) C [.int (p0), .int (4)] tC_11 k1 i2 Y_X12_node W_8_40 W_8_42 Wp_80 (c_X12_node h7) (by decide) (by decide) rfl (Nat.le_of_ble_eq_true rfl) dX12_expand_8 rfl ?_
  refine zx_istore C [(4, .int (v5)), (3, .ref (a3)), (0, .ref (a0)), (1, .int (p0)), (2, .int (p1))] dX12_expand_11 (by decide) rfl ?_
  refine zx_iconst (v := 0) C dX12_expand_13 (by decide) ?_
  refine zx_istore C [(5, .int (0)), (4, .int (v5)), (3, .ref (a3)), (0, .ref (a0)), (1, .int (p0)), (2, .int (p1))] dX12_expand_14 (by decide) rfl ?_
  exact zx_lv [3, 4, 5, 2, 1, 0] [(0, .ref (a0)), (1, .int (p0)), (2, .int (p1)), (3, .ref (a3)), (4, .int (v5)), (5, .int (0))] rfl (l_X12_expand_16 C htab hin  _ _ _ _ _ _ _ _ hm)
