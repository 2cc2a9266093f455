abbrev cX12_mayRename : ByteArray := prog_13_method_82_code
def yX12_mayRename : MethodName := ⟨"SyncTreeModel", "mayRename", "(III)I"⟩
theorem Y_X12_mayRename : tY yX12_mayRename cX12_mayRename 5 (some .int) 3 := ⟨W_8_208, W_1_14, ⟨by decide +kernel, by decide +kernel⟩, by decide +kernel⟩
theorem dX12_mayRename_0 : decode cX12_mayRename 0 = .ok (.iload_n 3, 1) := by decide +kernel
theorem dX12_mayRename_1 : decode cX12_mayRename 1 = .ok (.ifCond .lt 17, 3) := by decide +kernel
theorem dX12_mayRename_4 : decode cX12_mayRename 4 = .ok (.aload_n 0, 1) := by decide +kernel
theorem dX12_mayRename_5 : decode cX12_mayRename 5 = .ok (.iload_n 3, 1) := by decide +kernel
theorem dX12_mayRename_6 : decode cX12_mayRename 6 = .ok (.iconst 0, 1) := by decide +kernel
theorem dX12_mayRename_7 : decode cX12_mayRename 7 = .ok (.invokevirtual 247, 3) := by decide +kernel
theorem dX12_mayRename_10 : decode cX12_mayRename 10 = .ok (.iconst 2, 1) := by decide +kernel
theorem dX12_mayRename_11 : decode cX12_mayRename 11 = .ok (.if_icmp .ne 7, 3) := by decide +kernel
theorem dX12_mayRename_14 : decode cX12_mayRename 14 = .ok (.iconst 1, 1) := by decide +kernel
theorem dX12_mayRename_15 : decode cX12_mayRename 15 = .ok (.goto 4, 3) := by decide +kernel
theorem dX12_mayRename_18 : decode cX12_mayRename 18 = .ok (.iconst 0, 1) := by decide +kernel
theorem dX12_mayRename_19 : decode cX12_mayRename 19 = .ok (.istore 4, 2) := by decide +kernel
theorem dX12_mayRename_21 : decode cX12_mayRename 21 = .ok (.aload_n 0, 1) := by decide +kernel
theorem dX12_mayRename_22 : decode cX12_mayRename 22 = .ok (.iload_n 1, 1) := by decide +kernel
theorem dX12_mayRename_23 : decode cX12_mayRename 23 = .ok (.iconst 0, 1) := by decide +kernel
theorem dX12_mayRename_24 : decode cX12_mayRename 24 = .ok (.invokevirtual 247, 3) := by decide +kernel
theorem dX12_mayRename_27 : decode cX12_mayRename 27 = .ok (.iconst 2, 1) := by decide +kernel
theorem dX12_mayRename_28 : decode cX12_mayRename 28 = .ok (.if_icmp .ne 44, 3) := by decide +kernel
theorem dX12_mayRename_31 : decode cX12_mayRename 31 = .ok (.aload_n 0, 1) := by decide +kernel
theorem dX12_mayRename_32 : decode cX12_mayRename 32 = .ok (.iload_n 2, 1) := by decide +kernel
theorem dX12_mayRename_33 : decode cX12_mayRename 33 = .ok (.iload_n 1, 1) := by decide +kernel
theorem dX12_mayRename_34 : decode cX12_mayRename 34 = .ok (.invokevirtual 440, 3) := by decide +kernel
theorem dX12_mayRename_37 : decode cX12_mayRename 37 = .ok (.ifCond .eq 6, 3) := by decide +kernel
theorem dX12_mayRename_40 : decode cX12_mayRename 40 = .ok (.bipush (-9), 2) := by decide +kernel
theorem dX12_mayRename_42 : decode cX12_mayRename 42 = .ok (.ireturn, 1) := by decide +kernel
theorem dX12_mayRename_43 : decode cX12_mayRename 43 = .ok (.iload_n 3, 1) := by decide +kernel
theorem dX12_mayRename_44 : decode cX12_mayRename 44 = .ok (.ifCond .lt 11, 3) := by decide +kernel
theorem dX12_mayRename_47 : decode cX12_mayRename 47 = .ok (.iload 4, 2) := by decide +kernel
theorem dX12_mayRename_49 : decode cX12_mayRename 49 = .ok (.ifCond .ne 6, 3) := by decide +kernel
theorem dX12_mayRename_52 : decode cX12_mayRename 52 = .ok (.bipush (-3), 2) := by decide +kernel
theorem dX12_mayRename_54 : decode cX12_mayRename 54 = .ok (.ireturn, 1) := by decide +kernel
theorem dX12_mayRename_55 : decode cX12_mayRename 55 = .ok (.iload 4, 2) := by decide +kernel
theorem dX12_mayRename_57 : decode cX12_mayRename 57 = .ok (.ifCond .eq 23, 3) := by decide +kernel
theorem dX12_mayRename_60 : decode cX12_mayRename 60 = .ok (.aload_n 0, 1) := by decide +kernel
theorem dX12_mayRename_61 : decode cX12_mayRename 61 = .ok (.iload_n 3, 1) := by decide +kernel
theorem dX12_mayRename_62 : decode cX12_mayRename 62 = .ok (.iconst 1, 1) := by decide +kernel
theorem dX12_mayRename_63 : decode cX12_mayRename 63 = .ok (.invokevirtual 247, 3) := by decide +kernel
theorem dX12_mayRename_66 : decode cX12_mayRename 66 = .ok (.ifCond .le 14, 3) := by decide +kernel
theorem dX12_mayRename_69 : decode cX12_mayRename 69 = .ok (.bipush (-5), 2) := by decide +kernel
theorem dX12_mayRename_71 : decode cX12_mayRename 71 = .ok (.ireturn, 1) := by decide +kernel
theorem dX12_mayRename_72 : decode cX12_mayRename 72 = .ok (.iload 4, 2) := by decide +kernel
theorem dX12_mayRename_74 : decode cX12_mayRename 74 = .ok (.ifCond .eq 6, 3) := by decide +kernel
theorem dX12_mayRename_77 : decode cX12_mayRename 77 = .ok (.bipush (-4), 2) := by decide +kernel
theorem dX12_mayRename_79 : decode cX12_mayRename 79 = .ok (.ireturn, 1) := by decide +kernel
theorem dX12_mayRename_80 : decode cX12_mayRename 80 = .ok (.iload_n 3, 1) := by decide +kernel
theorem dX12_mayRename_81 : decode cX12_mayRename 81 = .ok (.ifCond .ge 16, 3) := by decide +kernel
theorem dX12_mayRename_84 : decode cX12_mayRename 84 = .ok (.aload_n 0, 1) := by decide +kernel
theorem dX12_mayRename_85 : decode cX12_mayRename 85 = .ok (.iload_n 2, 1) := by decide +kernel
theorem dX12_mayRename_86 : decode cX12_mayRename 86 = .ok (.invokevirtual 412, 3) := by decide +kernel
theorem dX12_mayRename_89 : decode cX12_mayRename 89 = .ok (.ifCond .eq 8, 3) := by decide +kernel
theorem dX12_mayRename_92 : decode cX12_mayRename 92 = .ok (.bipush (-6), 2) := by decide +kernel
theorem dX12_mayRename_94 : decode cX12_mayRename 94 = .ok (.goto 4, 3) := by decide +kernel
theorem dX12_mayRename_97 : decode cX12_mayRename 97 = .ok (.iconst 0, 1) := by decide +kernel
theorem dX12_mayRename_98 : decode cX12_mayRename 98 = .ok (.ireturn, 1) := by decide +kernel
set_option maxRecDepth 100000 in
set_option maxHeartbeats 1000000 in
theorem j_X12_mayRename_98 {p : Program} {l : Launch} {e : Env} {s : State} {m : MethodId} {args : Array Value} {below : List Frame} {meth : Method} {c : Code} {D : va_G} {aC : Nat → ClassId} {b0 fu : Nat} {σ0 τ : tM} {v : Int32}  (C : tCx p l s m args meth c yX12_mayRename.cls cX12_mayRename 5 (some .int) D aC b0 σ0) (htab : ∀ x ∈ c.exceptionTable.toList, False) (hin : meth.name = yX12_mayRename.name)  {s0 : Int32} {σ : tM} (hm : J_X12_mayRename_98 b0 fu  s0 σ = some (v, τ)) : tX p l e s m args below meth c 5 8 179 D aC b0 σ0 (.inl (some (.int v))) τ 98 [] [.int (s0)] σ := by
  unfold J_X12_mayRename_98 at hm
  obtain ⟨rfl, rfl⟩ := ret_e hm
  exact zx_iret C rfl rfl rfl dX12_mayRename_98
set_option maxRecDepth 100000 in
set_option maxHeartbeats 1000000 in
theorem j_X12_mayRename_97 {p : Program} {l : Launch} {e : Env} {s : State} {m : MethodId} {args : Array Value} {below : List Frame} {meth : Method} {c : Code} {D : va_G} {aC : Nat → ClassId} {b0 fu : Nat} {σ0 τ : tM} {v : Int32}  (C : tCx p l s m args meth c yX12_mayRename.cls cX12_mayRename 5 (some .int) D aC b0 σ0) (htab : ∀ x ∈ c.exceptionTable.toList, False) (hin : meth.name = yX12_mayRename.name)   {σ : tM} (hm : J_X12_mayRename_97 b0 fu   σ = some (v, τ)) : tX p l e s m args below meth c 5 8 179 D aC b0 σ0 (.inl (some (.int v))) τ 97 [] [] σ := by
  unfold J_X12_mayRename_97 at hm
  refine zx_iconst (v := 0) C dX12_mayRename_97 (by decide) ?_
  exact zx_lv [] [] rfl (j_X12_mayRename_98 C htab hin    hm)
set_option maxRecDepth 100000 in
set_option maxHeartbeats 1000000 in
theorem j_X12_mayRename_80 {p : Program} {l : Launch} {e : Env} {s : State} {m : MethodId} {args : Array Value} {below : List Frame} {meth : Method} {c : Code} {D : va_G} {aC : Nat → ClassId} {b0 fu : Nat} {σ0 τ : tM} {v : Int32}  (C : tCx p l s m args meth c yX12_mayRename.cls cX12_mayRename 5 (some .int) D aC b0 σ0) (htab : ∀ x ∈ c.exceptionTable.toList, False) (hin : meth.name = yX12_mayRename.name)  {x0 : Nat} {x2 : Int32} {x3 : Int32} {σ : tM} (hm : J_X12_mayRename_80 b0 fu  x0 x2 x3 σ = some (v, τ)) : tX p l e s m args below meth c 5 8 179 D aC b0 σ0 (.inl (some (.int v))) τ 80 [(0, .ref (x0)), (2, .int (x2)), (3, .int (x3))] [] σ := by
  unfold J_X12_mayRename_80 at hm
  refine zx_iload_n C dX12_mayRename_80 2 rfl ?_
  refine zx_if_ge C 97 dX12_mayRename_81 (by decide) (fun c9 => ?_) (fun c9 => ?_)
  · replace hm := ip_e hm c9
    exact zx_lv [] [] rfl (j_X12_mayRename_97 C htab hin    hm)
  · replace hm := in_e hm c9
    refine zx_aload_n C dX12_mayRename_84 0 rfl ?_
    refine zx_iload_n C dX12_mayRename_85 1 rfl ?_
    obtain ⟨k10, i11, hm⟩ := ckO_e hm
    obtain ⟨v12, ρ13, h14, hm⟩ := cll_e hm
    refine zx_callV (σ := σ) C [.int (x2)] tC_11 k10 i11 Y_X12_lacks W_8_79 W_8_81 Wp_89 (c_X12_lacks h14) (by decide) (by decide) rfl (Nat.le_of_ble_eq_true rfl) dX12_mayRename_86 rfl ?_
    refine zx_if_eq C 97 dX12_mayRename_89 (by decide) (fun c15 => ?_) (fun c15 => ?_)
    · replace hm := ip_e hm c15
      exact zx_lv [] [] rfl (j_X12_mayRename_97 C htab hin    hm)
    · replace hm := in_e hm c15
      refine zx_bipush (v := (-6)) C dX12_mayRename_92 (by decide) ?_
      refine zx_goto C 98 dX12_mayRename_94 (by decide) ?_
      exact zx_lv [] [] rfl (j_X12_mayRename_98 C htab hin    hm)
set_option maxRecDepth 100000 in
set_option maxHeartbeats 1000000 in
theorem j_X12_mayRename_55 {p : Program} {l : Launch} {e : Env} {s : State} {m : MethodId} {args : Array Value} {below : List Frame} {meth : Method} {c : Code} {D : va_G} {aC : Nat → ClassId} {b0 fu : Nat} {σ0 τ : tM} {v : Int32}  (C : tCx p l s m args meth c yX12_mayRename.cls cX12_mayRename 5 (some .int) D aC b0 σ0) (htab : ∀ x ∈ c.exceptionTable.toList, False) (hin : meth.name = yX12_mayRename.name)  {x0 : Nat} {x2 : Int32} {x3 : Int32} {x4 : Int32} {σ : tM} (hm : J_X12_mayRename_55 b0 fu  x0 x2 x3 x4 σ = some (v, τ)) : tX p l e s m args below meth c 5 8 179 D aC b0 σ0 (.inl (some (.int v))) τ 55 [(0, .ref (x0)), (2, .int (x2)), (3, .int (x3)), (4, .int (x4))] [] σ := by
  unfold J_X12_mayRename_55 at hm
  refine zx_iload C dX12_mayRename_55 3 rfl ?_
  refine zx_if_eq C 80 dX12_mayRename_57 (by decide) (fun c23 => ?_) (fun c23 => ?_)
  · replace hm := ip_e hm c23
    exact zx_lv [0, 1, 2] [(0, .ref (x0)), (2, .int (x2)), (3, .int (x3))] rfl (j_X12_mayRename_80 C htab hin    hm)
  · replace hm := in_e hm c23
    refine zx_aload_n C dX12_mayRename_60 0 rfl ?_
    refine zx_iload_n C dX12_mayRename_61 2 rfl ?_
    refine zx_iconst (v := 1) C dX12_mayRename_62 (by decide) ?_
    obtain ⟨k24, i25, hm⟩ := ckO_e hm
    obtain ⟨v26, ρ27, h28, hm⟩ := cll_e hm
    refine zx_callV (σ := σ) C [.int (x3), .int (1)] tC_11 k24 i25 Y_X12_node W_8_40 W_8_42 Wp_80 (c_X12_node h28) (by decide) (by decide) rfl (Nat.le_of_ble_eq_true rfl) dX12_mayRename_63 rfl ?_
    refine zx_if_le C 80 dX12_mayRename_66 (by decide) (fun c29 => ?_) (fun c29 => ?_)
    · replace hm := ip_e hm c29
      exact zx_lv [0, 1, 2] [(0, .ref (x0)), (2, .int (x2)), (3, .int (x3))] rfl (j_X12_mayRename_80 C htab hin    hm)
    · replace hm := in_e hm c29
      refine zx_bipush (v := (-5)) C dX12_mayRename_69 (by decide) ?_
      obtain ⟨rfl, rfl⟩ := ret_e hm
      exact zx_iret C rfl rfl rfl dX12_mayRename_71
set_option maxRecDepth 100000 in
set_option maxHeartbeats 1000000 in
theorem j_X12_mayRename_19 {p : Program} {l : Launch} {e : Env} {s : State} {m : MethodId} {args : Array Value} {below : List Frame} {meth : Method} {c : Code} {D : va_G} {aC : Nat → ClassId} {b0 fu : Nat} {σ0 τ : tM} {v : Int32}  (C : tCx p l s m args meth c yX12_mayRename.cls cX12_mayRename 5 (some .int) D aC b0 σ0) (htab : ∀ x ∈ c.exceptionTable.toList, False) (hin : meth.name = yX12_mayRename.name)  {x0 : Nat} {x1 : Int32} {x2 : Int32} {x3 : Int32} {s0 : Int32} {σ : tM} (hm : J_X12_mayRename_19 b0 fu  x0 x1 x2 x3 s0 σ = some (v, τ)) : tX p l e s m args below meth c 5 8 179 D aC b0 σ0 (.inl (some (.int v))) τ 19 [(0, .ref (x0)), (1, .int (x1)), (2, .int (x2)), (3, .int (x3))] [.int (s0)] σ := by
  unfold J_X12_mayRename_19 at hm
  refine zx_istore C [(4, .int (s0)), (0, .ref (x0)), (1, .int (x1)), (2, .int (x2)), (3, .int (x3))] dX12_mayRename_19 (by decide) rfl ?_
  refine zx_aload_n C dX12_mayRename_21 1 rfl ?_
  refine zx_iload_n C dX12_mayRename_22 2 rfl ?_
  refine zx_iconst (v := 0) C dX12_mayRename_23 (by decide) ?_
  obtain ⟨k2, i3, hm⟩ := ckO_e hm
  obtain ⟨v4, ρ5, h6, hm⟩ := cll_e hm
  refine zx_callV (σ := σ) C [.int (x1), .int (0)] tC_11 k2 i3 Y_X12_node W_8_40 W_8_42 Wp_80 (c_X12_node h6) (by decide) (by decide) rfl (Nat.le_of_ble_eq_true rfl) dX12_mayRename_24 rfl ?_
  refine zx_iconst (v := 2) C dX12_mayRename_27 (by decide) ?_
  refine zx_icmp_ne C 72 dX12_mayRename_28 (by decide) (fun c7 => ?_) (fun c7 => ?_)
  · replace hm := in_e hm c7
    refine zx_iload C dX12_mayRename_72 0 rfl ?_
    refine zx_if_eq C 80 dX12_mayRename_74 (by decide) (fun c8 => ?_) (fun c8 => ?_)
    · replace hm := ip_e hm c8
      exact zx_lv [1, 3, 4] [(0, .ref (x0)), (2, .int (x2)), (3, .int (x3))] rfl (j_X12_mayRename_80 C htab hin    hm)
    · replace hm := in_e hm c8
      refine zx_bipush (v := (-4)) C dX12_mayRename_77 (by decide) ?_
      obtain ⟨rfl, rfl⟩ := ret_e hm
      exact zx_iret C rfl rfl rfl dX12_mayRename_79
  · replace hm := ip_e hm c7
    refine zx_aload_n C dX12_mayRename_31 1 rfl ?_
    refine zx_iload_n C dX12_mayRename_32 3 rfl ?_
    refine zx_iload_n C dX12_mayRename_33 2 rfl ?_
    obtain ⟨k16, i17, hm⟩ := ckO_e hm
    obtain ⟨v18, ρ19, h20, hm⟩ := cll_e hm
    refine zx_callV (σ := ρ5) C [.int (x2), .int (x1)] tC_11 k16 i17 Y_X12_isBelow W_8_209 W_8_211 Wp_115 (c_X12_isBelow h20) (by decide) (by decide) rfl (Nat.le_of_ble_eq_true rfl) dX12_mayRename_34 rfl ?_
    refine zx_if_eq C 43 dX12_mayRename_37 (by decide) (fun c21 => ?_) (fun c21 => ?_)
    · replace hm := ip_e hm c21
      refine zx_iload_n C dX12_mayRename_43 4 rfl ?_
      refine zx_if_lt C 55 dX12_mayRename_44 (by decide) (fun c22 => ?_) (fun c22 => ?_)
      · replace hm := ip_e hm c22
        exact zx_lv [1, 3, 4, 0] [(0, .ref (x0)), (2, .int (x2)), (3, .int (x3)), (4, .int (s0))] rfl (j_X12_mayRename_55 C htab hin    hm)
      · replace hm := in_e hm c22
        refine zx_iload C dX12_mayRename_47 0 rfl ?_
        refine zx_if_ne C 55 dX12_mayRename_49 (by decide) (fun c30 => ?_) (fun c30 => ?_)
        · replace hm := in_e hm c30
          exact zx_lv [1, 3, 4, 0] [(0, .ref (x0)), (2, .int (x2)), (3, .int (x3)), (4, .int (s0))] rfl (j_X12_mayRename_55 C htab hin    hm)
        · replace hm := ip_e hm c30
          refine zx_bipush (v := (-3)) C dX12_mayRename_52 (by decide) ?_
          obtain ⟨rfl, rfl⟩ := ret_e hm
          exact zx_iret C rfl rfl rfl dX12_mayRename_54
    · replace hm := in_e hm c21
      refine zx_bipush (v := (-9)) C dX12_mayRename_40 (by decide) ?_
      obtain ⟨rfl, rfl⟩ := ret_e hm
      exact zx_iret C rfl rfl rfl dX12_mayRename_42
set_option maxRecDepth 100000 in
set_option maxHeartbeats 1000000 in
theorem j_X12_mayRename_18 {p : Program} {l : Launch} {e : Env} {s : State} {m : MethodId} {args : Array Value} {below : List Frame} {meth : Method} {c : Code} {D : va_G} {aC : Nat → ClassId} {b0 fu : Nat} {σ0 τ : tM} {v : Int32}  (C : tCx p l s m args meth c yX12_mayRename.cls cX12_mayRename 5 (some .int) D aC b0 σ0) (htab : ∀ x ∈ c.exceptionTable.toList, False) (hin : meth.name = yX12_mayRename.name)  {x0 : Nat} {x1 : Int32} {x2 : Int32} {x3 : Int32} {σ : tM} (hm : J_X12_mayRename_18 b0 fu  x0 x1 x2 x3 σ = some (v, τ)) : tX p l e s m args below meth c 5 8 179 D aC b0 σ0 (.inl (some (.int v))) τ 18 [(0, .ref (x0)), (1, .int (x1)), (2, .int (x2)), (3, .int (x3))] [] σ := by
  unfold J_X12_mayRename_18 at hm
  refine zx_iconst (v := 0) C dX12_mayRename_18 (by decide) ?_
  exact zx_lv [0, 1, 2, 3] [(0, .ref (x0)), (1, .int (x1)), (2, .int (x2)), (3, .int (x3))] rfl (j_X12_mayRename_19 C htab hin    hm)
set_option maxRecDepth 100000 in
set_option maxHeartbeats 1000000 in
theorem c_X12_mayRename {l : Launch} {D : va_G} {aC : Nat → ClassId} {b0 fu : Nat} {a0 : Nat} {p0 : Int32} {p1 : Int32} {p2 : Int32} {σ τ : tM} {v : Int32} (hm : m_X12_mayRename b0 fu a0 p0 p1 p2 σ = some (v, τ)) : tMt l D aC b0 yX12_mayRename (Cond.code yX12_mayRename cX12_mayRename 5 (some .int)) 8 179 [.ref (a0), .int (p0), .int (p1), .int (p2)] σ (.inl (some (.int v))) τ := by
  unfold m_X12_mayRename at hm
  obtain ⟨hg, hm⟩ := grw_e hm
  refine tMt_of (n := 0) rfl (Nat.le_of_ble_eq_true rfl) hg ?_
  intro p e s m below meth c C htab hin
  refine zx_lv [0, 1, 2, 3] [(0, .ref (a0)), (1, .int (p0)), (2, .int (p1)), (3, .int (p2))] rfl ?_
  refine zx_iload_n C dX12_mayRename_0 3 rfl ?_
  refine zx_if_lt C 18 dX12_mayRename_1 (by decide) (fun c1 => ?_) (fun c1 => ?_)
  · replace hm := ip_e hm c1
    exact zx_lv [0, 1, 2, 3] [(0, .ref (a0)), (1, .int (p0)), (2, .int (p1)), (3, .int (p2))] rfl (j_X12_mayRename_18 C htab hin    hm)
  · replace hm := in_e hm c1
    refine zx_aload_n C dX12_mayRename_4 0 rfl ?_
    refine zx_iload_n C dX12_mayRename_5 3 rfl ?_
    refine zx_iconst (v := 0) C dX12_mayRename_6 (by decide) ?_
    obtain ⟨k31, i32, hm⟩ := ckO_e hm
    obtain ⟨v33, ρ34, h35, hm⟩ := cll_e hm
    refine zx_callV (σ := σ) C [.int (p2), .int (0)] tC_11 k31 i32 Y_X12_node W_8_40 W_8_42 Wp_80 (c_X12_node h35) (by decide) (by decide) rfl (Nat.le_of_ble_eq_true rfl) dX12_mayRename_7 rfl ?_
    refine zx_iconst (v := 2) C dX12_mayRename_10 (by decide) ?_
    refine zx_icmp_ne C 18 dX12_mayRename_11 (by decide) (fun c36 => ?_) (fun c36 => ?_)
    · replace hm := in_e hm c36
      exact zx_lv [0, 1, 2, 3] [(0, .ref (a0)), (1, .int (p0)), (2, .int (p1)), (3, .int (p2))] rfl (j_X12_mayRename_18 C htab hin    hm)
    · replace hm := ip_e hm c36
      refine zx_iconst (v := 1) C dX12_mayRename_14 (by decide) ?_
      refine zx_goto C 19 dX12_mayRename_15 (by decide) ?_
      exact zx_lv [0, 1, 2, 3] [(0, .ref (a0)), (1, .int (p0)), (2, .int (p1)), (3, .int (p2))] rfl (j_X12_mayRename_19 C htab hin    hm)
abbrev cX12_isHandle : ByteArray := prog_13_method_84_code
def yX12_isHandle : MethodName := ⟨"SyncTreeModel", "isHandle", "(I)Z"⟩
theorem Y_X12_isHandle : tY yX12_isHandle cX12_isHandle 2 (some .boolean) 1 := ⟨W_8_224, W_1_14, ⟨by decide +kernel, by decide +kernel⟩, by decide +kernel⟩
theorem dX12_isHandle_0 : decode cX12_isHandle 0 = .ok (.iload_n 1, 1) := by decide +kernel
theorem dX12_isHandle_1 : decode cX12_isHandle 1 = .ok (.ifCond .lt 22, 3) := by decide +kernel
theorem dX12_isHandle_4 : decode cX12_isHandle 4 = .ok (.iload_n 1, 1) := by decide +kernel
theorem dX12_isHandle_5 : decode cX12_isHandle 5 = .ok (.bipush 16, 2) := by decide +kernel
theorem dX12_isHandle_7 : decode cX12_isHandle 7 = .ok (.if_icmp .ge 16, 3) := by decide +kernel
theorem dX12_isHandle_10 : decode cX12_isHandle 10 = .ok (.aload_n 0, 1) := by decide +kernel
theorem dX12_isHandle_11 : decode cX12_isHandle 11 = .ok (.getfield 286, 3) := by decide +kernel
theorem dX12_isHandle_14 : decode cX12_isHandle 14 = .ok (.iload_n 1, 1) := by decide +kernel
theorem dX12_isHandle_15 : decode cX12_isHandle 15 = .ok (.iaload, 1) := by decide +kernel
theorem dX12_isHandle_16 : decode cX12_isHandle 16 = .ok (.ifCond .lt 7, 3) := by decide +kernel
theorem dX12_isHandle_19 : decode cX12_isHandle 19 = .ok (.iconst 1, 1) := by decide +kernel
theorem dX12_isHandle_20 : decode cX12_isHandle 20 = .ok (.goto 4, 3) := by decide +kernel
theorem dX12_isHandle_23 : decode cX12_isHandle 23 = .ok (.iconst 0, 1) := by decide +kernel
theorem dX12_isHandle_24 : decode cX12_isHandle 24 = .ok (.ireturn, 1) := by decide +kernel
set_option maxRecDepth 100000 in
set_option maxHeartbeats 1000000 in
theorem j_X12_isHandle_24 {p : Program} {l : Launch} {e : Env} {s : State} {m : MethodId} {args : Array Value} {below : List Frame} {meth : Method} {c : Code} {D : va_G} {aC : Nat → ClassId} {b0 fu : Nat} {σ0 τ : tM} {v : Int32}  (C : tCx p l s m args meth c yX12_isHandle.cls cX12_isHandle 2 (some .boolean) D aC b0 σ0) (htab : ∀ x ∈ c.exceptionTable.toList, False) (hin : meth.name = yX12_isHandle.name)  {s0 : Int32} {σ : tM} (hm : J_X12_isHandle_24 b0 fu  s0 σ = some (v, τ)) : tX p l e s m args below meth c 2 0 0 D aC b0 σ0 (.inl (some (.int v))) τ 24 [] [.int (s0)] σ := by
  unfold J_X12_isHandle_24 at hm
  obtain ⟨h2, hm⟩ := ckZ_e hm
  obtain ⟨rfl, rfl⟩ := ret_e hm
  exact zx_zret C rfl h2 rfl rfl dX12_isHandle_24
set_option maxRecDepth 100000 in
set_option maxHeartbeats 1000000 in
theorem j_X12_isHandle_23 {p : Program} {l : Launch} {e : Env} {s : State} {m : MethodId} {args : Array Value} {below : List Frame} {meth : Method} {c : Code} {D : va_G} {aC : Nat → ClassId} {b0 fu : Nat} {σ0 τ : tM} {v : Int32}  (C : tCx p l s m args meth c yX12_isHandle.cls cX12_isHandle 2 (some .boolean) D aC b0 σ0) (htab : ∀ x ∈ c.exceptionTable.toList, False) (hin : meth.name = yX12_isHandle.name)   {σ : tM} (hm : J_X12_isHandle_23 b0 fu   σ = some (v, τ)) : tX p l e s m args below meth c 2 0 0 D aC b0 σ0 (.inl (some (.int v))) τ 23 [] [] σ := by
  unfold J_X12_isHandle_23 at hm
  refine zx_iconst (v := 0) C dX12_isHandle_23 (by decide) ?_
  exact zx_lv [] [] rfl (j_X12_isHandle_24 C htab hin    hm)
set_option maxRecDepth 100000 in
set_option maxHeartbeats 1000000 in
theorem c_X12_isHandle {l : Launch} {D : va_G} {aC : Nat → ClassId} {b0 fu : Nat} {a0 : Nat} {p0 : Int32} {σ τ : tM} {v : Int32} (hm : m_X12_isHandle b0 fu a0 p0 σ = some (v, τ)) : tMt l D aC b0 yX12_isHandle (Cond.code yX12_isHandle cX12_isHandle 2 (some .boolean)) 0 0 [.ref (a0), .int (p0)] σ (.inl (some (.int v))) τ := by
  unfold m_X12_isHandle at hm
  obtain ⟨hg, hm⟩ := grw_e hm
  refine tMt_of (n := 0) rfl (Nat.le_of_ble_eq_true rfl) hg ?_
  intro p e s m below meth c C htab hin
  refine zx_lv [0, 1] [(0, .ref (a0)), (1, .int (p0))] rfl ?_
  refine zx_iload_n C dX12_isHandle_0 1 rfl ?_
  refine zx_if_lt C 23 dX12_isHandle_1 (by decide) (fun c1 => ?_) (fun c1 => ?_)
  · replace hm := ip_e hm c1
    exact zx_lv [] [] rfl (j_X12_isHandle_23 C htab hin    hm)
  · replace hm := in_e hm c1
    refine zx_iload_n C dX12_isHandle_4 1 rfl ?_
    refine zx_bipush (v := 16) C dX12_isHandle_5 (by decide) ?_
    refine zx_icmp_ge C 23 dX12_isHandle_7 (by decide) (fun c3 => ?_) (fun c3 => ?_)
    · replace hm := ip_e hm c3
      exact zx_lv [] [] rfl (j_X12_isHandle_23 C htab hin    hm)
    · replace hm := in_e hm c3
      refine zx_aload_n C dX12_isHandle_10 0 rfl ?_
      obtain ⟨k4, i5, hm⟩ := ckO_e hm
      obtain ⟨a6, h7, hm⟩ := osm_e hm
      refine zx_get (j := 58) C tC_11 k4 i5 ⟨by decide, Or.inl W_7_37⟩ dX12_isHandle_11 (.ref a6) (rf_s h7) ?_
      refine zx_iload_n C dX12_isHandle_14 1 rfl ?_
      obtain ⟨n10, k8, i9, hm⟩ := ckR_e hm
      obtain ⟨h11, hm⟩ := ckI_e hm
      refine zx_iald C k8 i9 h11 dX12_isHandle_15 ?_
      refine zx_if_lt C 23 dX12_isHandle_16 (by decide) (fun c12 => ?_) (fun c12 => ?_)
      · replace hm := ip_e hm c12
        exact zx_lv [] [] rfl (j_X12_isHandle_23 C htab hin    hm)
      · replace hm := in_e hm c12
        refine zx_iconst (v := 1) C dX12_isHandle_19 (by decide) ?_
        refine zx_goto C 24 dX12_isHandle_20 (by decide) ?_
        exact zx_lv [] [] rfl (j_X12_isHandle_24 C htab hin    hm)
abbrev cX12_byteOf : ByteArray := prog_13_method_91_code
def yX12_byteOf : MethodName := ⟨"SyncTreeModel", "byteOf", "(II)I"⟩
theorem Y_X12_byteOf : tY yX12_byteOf cX12_byteOf 4 (some .int) 2 := ⟨W_9_9, W_1_14, ⟨by decide +kernel, by decide +kernel⟩, by decide +kernel⟩
theorem dX12_byteOf_0 : decode cX12_byteOf 0 = .ok (.aload_n 0, 1) := by decide +kernel
theorem dX12_byteOf_1 : decode cX12_byteOf 1 = .ok (.iload_n 1, 1) := by decide +kernel
theorem dX12_byteOf_2 : decode cX12_byteOf 2 = .ok (.iload_n 2, 1) := by decide +kernel
theorem dX12_byteOf_3 : decode cX12_byteOf 3 = .ok (.sipush 256, 3) := by decide +kernel
theorem dX12_byteOf_6 : decode cX12_byteOf 6 = .ok (.idiv, 1) := by decide +kernel
theorem dX12_byteOf_7 : decode cX12_byteOf 7 = .ok (.invokevirtual 259, 3) := by decide +kernel
theorem dX12_byteOf_10 : decode cX12_byteOf 10 = .ok (.iconst 1, 1) := by decide +kernel
theorem dX12_byteOf_11 : decode cX12_byteOf 11 = .ok (.isub, 1) := by decide +kernel
theorem dX12_byteOf_12 : decode cX12_byteOf 12 = .ok (.istore_n 3, 1) := by decide +kernel
theorem dX12_byteOf_13 : decode cX12_byteOf 13 = .ok (.iload_n 3, 1) := by decide +kernel
theorem dX12_byteOf_14 : decode cX12_byteOf 14 = .ok (.ifCond .ge 7, 3) := by decide +kernel
theorem dX12_byteOf_17 : decode cX12_byteOf 17 = .ok (.iconst 0, 1) := by decide +kernel
theorem dX12_byteOf_18 : decode cX12_byteOf 18 = .ok (.goto 23, 3) := by decide +kernel
theorem dX12_byteOf_21 : decode cX12_byteOf 21 = .ok (.aload_n 0, 1) := by decide +kernel
theorem dX12_byteOf_22 : decode cX12_byteOf 22 = .ok (.getfield 102, 3) := by decide +kernel
theorem dX12_byteOf_25 : decode cX12_byteOf 25 = .ok (.sipush 256, 3) := by decide +kernel
theorem dX12_byteOf_28 : decode cX12_byteOf 28 = .ok (.iload_n 3, 1) := by decide +kernel
theorem dX12_byteOf_29 : decode cX12_byteOf 29 = .ok (.imul, 1) := by decide +kernel
theorem dX12_byteOf_30 : decode cX12_byteOf 30 = .ok (.iload_n 2, 1) := by decide +kernel
theorem dX12_byteOf_31 : decode cX12_byteOf 31 = .ok (.sipush 256, 3) := by decide +kernel
theorem dX12_byteOf_34 : decode cX12_byteOf 34 = .ok (.irem, 1) := by decide +kernel
theorem dX12_byteOf_35 : decode cX12_byteOf 35 = .ok (.iadd, 1) := by decide +kernel
theorem dX12_byteOf_36 : decode cX12_byteOf 36 = .ok (.baload, 1) := by decide +kernel
theorem dX12_byteOf_37 : decode cX12_byteOf 37 = .ok (.sipush 255, 3) := by decide +kernel
theorem dX12_byteOf_40 : decode cX12_byteOf 40 = .ok (.iand, 1) := by decide +kernel
theorem dX12_byteOf_41 : decode cX12_byteOf 41 = .ok (.ireturn, 1) := by decide +kernel
set_option maxRecDepth 100000 in
set_option maxHeartbeats 1000000 in
theorem j_X12_byteOf_41 {p : Program} {l : Launch} {e : Env} {s : State} {m : MethodId} {args : Array Value} {below : List Frame} {meth : Method} {c : Code} {D : va_G} {aC : Nat → ClassId} {b0 fu : Nat} {σ0 τ : tM} {v : Int32}  (C : tCx p l s m args meth c yX12_byteOf.cls cX12_byteOf 4 (some .int) D aC b0 σ0) (htab : ∀ x ∈ c.exceptionTable.toList, False) (hin : meth.name = yX12_byteOf.name)  {s0 : Int32} {σ : tM} (hm : J_X12_byteOf_41 b0 fu  s0 σ = some (v, τ)) : tX p l e s m args below meth c 4 4 89 D aC b0 σ0 (.inl (some (.int v))) τ 41 [] [.int (s0)] σ := by
  unfold J_X12_byteOf_41 at hm
  obtain ⟨rfl, rfl⟩ := ret_e hm
  exact zx_iret C rfl rfl rfl dX12_byteOf_41
set_option maxRecDepth 100000 in
set_option maxHeartbeats 1000000 in
theorem c_X12_byteOf {l : Launch} {D : va_G} {aC : Nat → ClassId} {b0 fu : Nat} {a0 : Nat} {p0 : Int32} {p1 : Int32} {σ τ : tM} {v : Int32} (hm : m_X12_byteOf b0 fu a0 p0 p1 σ = some (v, τ)) : tMt l D aC b0 yX12_byteOf (Cond.code yX12_byteOf cX12_byteOf 4 (some .int)) 4 89 [.ref (a0), .int (p0), .int (p1)] σ (.inl (some (.int v))) τ := by
  unfold m_X12_byteOf at hm
  obtain ⟨hg, hm⟩ := grw_e hm
  refine tMt_of (n := 0) rfl (Nat.le_of_ble_eq_true rfl) hg ?_
  intro p e s m below meth c C htab hin
  refine zx_lv [0, 1, 2] [(0, .ref (a0)), (1, .int (p0)), (2, .int (p1))] rfl ?_
  refine zx_aload_n C dX12_byteOf_0 0 rfl ?_
  refine zx_iload_n C dX12_byteOf_1 1 rfl ?_
  refine zx_iload_n C dX12_byteOf_2 2 rfl ?_
  refine zx_sipush (v := 256) C dX12_byteOf_3 (by decide) ?_
  refine zx_idiv C dX12_byteOf_6 (by decide) ?_
  obtain ⟨k1, i2, hm⟩ := ckO_e hm
  obtain ⟨v3, ρ4, h5, hm⟩ := cll_e hm
  refine zx_callV (σ := σ) C [.int (p0), .int ((p1) / (256))] tC_11 k1 i2 Y_X12_has W_8_60 W_8_62 Wp_85 (c_X12_has h5) (by decide) (by decide) rfl (Nat.le_of_ble_eq_true rfl) dX12_byteOf_7 rfl ?_
  refine zx_iconst (v := 1) C dX12_byteOf_10 (by decide) ?_
  refine zx_isub C dX12_byteOf_11 ?_
  refine zx_topi (fun y6 hy6 => ?_)
  replace hm := ltb_e hm hy6
  refine zx_istore_n C [(3, .int (y6)), (0, .ref (a0)), (1, .int (p0)), (2, .int (p1))] dX12_byteOf_12 rfl (by decide) rfl ?_
  refine zx_iload_n C dX12_byteOf_13 0 rfl ?_
  refine zx_if_ge C 21 dX12_byteOf_14 (by decide) (fun c7 => ?_) (fun c7 => ?_)
  · replace hm := ip_e hm c7
    refine zx_aload_n C dX12_byteOf_21 1 rfl ?_
    obtain ⟨k8, i9, hm⟩ := ckO_e hm
    obtain ⟨a10, h11, hm⟩ := osm_e hm
    refine zx_get (j := 22) C tC_11 k8 i9 ⟨by decide, Or.inl W_7_1⟩ dX12_byteOf_22 (.ref a10) (rf_s h11) ?_
    refine zx_sipush (v := 256) C dX12_byteOf_25 (by decide) ?_
    refine zx_iload_n C dX12_byteOf_28 0 rfl ?_
    refine zx_imul C dX12_byteOf_29 ?_
    refine zx_iload_n C dX12_byteOf_30 3 rfl ?_
    refine zx_sipush (v := 256) C dX12_byteOf_31 (by decide) ?_
    refine zx_irem C dX12_byteOf_34 (by decide) ?_
    refine zx_iadd C dX12_byteOf_35 ?_
    obtain ⟨n14, k12, i13, hm⟩ := ckR_e hm
    obtain ⟨h15, hm⟩ := ckI_e hm
    refine zx_bald C k12 i13 h15 dX12_byteOf_36 ?_
    refine zx_sipush (v := 255) C dX12_byteOf_37 (by decide) ?_
    refine zx_iand C dX12_byteOf_40 ?_
    exact zx_lv [] [] rfl (j_X12_byteOf_41 C htab hin    hm)
  · replace hm := in_e hm c7
    refine zx_iconst (v := 0) C dX12_byteOf_17 (by decide) ?_
    refine zx_goto C 41 dX12_byteOf_18 (by decide) ?_
    exact zx_lv [] [] rfl (j_X12_byteOf_41 C htab hin    hm)
abbrev cX12_told : ByteArray := prog_13_method_94_code
def yX12_told : MethodName := ⟨"SyncTreeModel", "told", "(II)I"⟩
theorem Y_X12_told : tY yX12_told cX12_told 8 (some .int) 2 := ⟨W_9_23, W_1_14, ⟨by decide +kernel, by decide +kernel⟩, by decide +kernel⟩
theorem dX12_told_0 : decode cX12_told 0 = .ok (.aload_n 0, 1) := by decide +kernel
theorem dX12_told_1 : decode cX12_told 1 = .ok (.iload_n 1, 1) := by decide +kernel
theorem dX12_told_2 : decode cX12_told 2 = .ok (.iconst 0, 1) := by decide +kernel
theorem dX12_told_3 : decode cX12_told 3 = .ok (.invokevirtual 247, 3) := by decide +kernel
theorem dX12_told_6 : decode cX12_told 6 = .ok (.istore_n 3, 1) := by decide +kernel
theorem dX12_told_7 : decode cX12_told 7 = .ok (.aload_n 0, 1) := by decide +kernel
theorem dX12_told_8 : decode cX12_told 8 = .ok (.iload_n 1, 1) := by decide +kernel
theorem dX12_told_9 : decode cX12_told 9 = .ok (.iconst 1, 1) := by decide +kernel
theorem dX12_told_10 : decode cX12_told 10 = .ok (.invokevirtual 247, 3) := by decide +kernel
theorem dX12_told_13 : decode cX12_told 13 = .ok (.istore 4, 2) := by decide +kernel
theorem dX12_told_15 : decode cX12_told 15 = .ok (.iconst 0, 1) := by decide +kernel
theorem dX12_told_16 : decode cX12_told 16 = .ok (.istore 5, 2) := by decide +kernel
theorem dX12_told_18 : decode cX12_told 18 = .ok (.iload_n 2, 1) := by decide +kernel
theorem dX12_told_19 : decode cX12_told 19 = .ok (.tableswitch 197 0 5 #[37, 39, 56, 63, 65, 112], 37) := by decide +kernel
theorem dX12_told_56 : decode cX12_told 56 = .ok (.iload_n 3, 1) := by decide +kernel
theorem dX12_told_57 : decode cX12_told 57 = .ok (.ireturn, 1) := by decide +kernel
theorem dX12_told_58 : decode cX12_told 58 = .ok (.iload_n 3, 1) := by decide +kernel
theorem dX12_told_59 : decode cX12_told 59 = .ok (.iconst 3, 1) := by decide +kernel
theorem dX12_told_60 : decode cX12_told 60 = .ok (.if_icmp .ne 12, 3) := by decide +kernel
theorem dX12_told_63 : decode cX12_told 63 = .ok (.aload_n 0, 1) := by decide +kernel
theorem dX12_told_64 : decode cX12_told 64 = .ok (.iload_n 1, 1) := by decide +kernel
theorem dX12_told_65 : decode cX12_told 65 = .ok (.iconst 4, 1) := by decide +kernel
theorem dX12_told_66 : decode cX12_told 66 = .ok (.invokevirtual 247, 3) := by decide +kernel
theorem dX12_told_69 : decode cX12_told 69 = .ok (.goto 5, 3) := by decide +kernel
theorem dX12_told_72 : decode cX12_told 72 = .ok (.iload 4, 2) := by decide +kernel
theorem dX12_told_74 : decode cX12_told 74 = .ok (.ireturn, 1) := by decide +kernel
theorem dX12_told_75 : decode cX12_told 75 = .ok (.aload_n 0, 1) := by decide +kernel
theorem dX12_told_76 : decode cX12_told 76 = .ok (.iload_n 1, 1) := by decide +kernel
theorem dX12_told_77 : decode cX12_told 77 = .ok (.iconst 2, 1) := by decide +kernel
theorem dX12_told_78 : decode cX12_told 78 = .ok (.invokevirtual 247, 3) := by decide +kernel
theorem dX12_told_81 : decode cX12_told 81 = .ok (.ireturn, 1) := by decide +kernel
theorem dX12_told_82 : decode cX12_told 82 = .ok (.iload_n 1, 1) := by decide +kernel
theorem dX12_told_83 : decode cX12_told 83 = .ok (.ireturn, 1) := by decide +kernel
theorem dX12_told_84 : decode cX12_told 84 = .ok (.iconst 0, 1) := by decide +kernel
theorem dX12_told_85 : decode cX12_told 85 = .ok (.istore 6, 2) := by decide +kernel
theorem dX12_told_87 : decode cX12_told 87 = .ok (.iload 6, 2) := by decide +kernel
theorem dX12_told_89 : decode cX12_told 89 = .ok (.iload 4, 2) := by decide +kernel
theorem dX12_told_91 : decode cX12_told 91 = .ok (.sipush 255, 3) := by decide +kernel
theorem dX12_told_94 : decode cX12_told 94 = .ok (.iadd, 1) := by decide +kernel
theorem dX12_told_95 : decode cX12_told 95 = .ok (.sipush 256, 3) := by decide +kernel
theorem dX12_told_98 : decode cX12_told 98 = .ok (.idiv, 1) := by decide +kernel
theorem dX12_told_99 : decode cX12_told 99 = .ok (.if_icmp .ge 29, 3) := by decide +kernel
theorem dX12_told_102 : decode cX12_told 102 = .ok (.iload 5, 2) := by decide +kernel
theorem dX12_told_104 : decode cX12_told 104 = .ok (.aload_n 0, 1) := by decide +kernel
theorem dX12_told_105 : decode cX12_told 105 = .ok (.iload_n 1, 1) := by decide +kernel
theorem dX12_told_106 : decode cX12_told 106 = .ok (.iload 6, 2) := by decide +kernel
theorem dX12_told_108 : decode cX12_told 108 = .ok (.invokevirtual 259, 3) := by decide +kernel
theorem dX12_told_111 : decode cX12_told 111 = .ok (.ifCond .eq 7, 3) := by decide +kernel
theorem dX12_told_114 : decode cX12_told 114 = .ok (.iconst 1, 1) := by decide +kernel
theorem dX12_told_115 : decode cX12_told 115 = .ok (.goto 4, 3) := by decide +kernel
theorem dX12_told_118 : decode cX12_told 118 = .ok (.iconst 0, 1) := by decide +kernel
theorem dX12_told_119 : decode cX12_told 119 = .ok (.iadd, 1) := by decide +kernel
theorem dX12_told_120 : decode cX12_told 120 = .ok (.istore 5, 2) := by decide +kernel
theorem dX12_told_122 : decode cX12_told 122 = .ok (.iinc 6 1, 3) := by decide +kernel
theorem dX12_told_125 : decode cX12_told 125 = .ok (.goto (-38), 3) := by decide +kernel
theorem dX12_told_128 : decode cX12_told 128 = .ok (.iload 5, 2) := by decide +kernel
theorem dX12_told_130 : decode cX12_told 130 = .ok (.ireturn, 1) := by decide +kernel
theorem dX12_told_131 : decode cX12_told 131 = .ok (.aload_n 0, 1) := by decide +kernel
theorem dX12_told_132 : decode cX12_told 132 = .ok (.iload_n 1, 1) := by decide +kernel
theorem dX12_told_133 : decode cX12_told 133 = .ok (.bipush 93, 2) := by decide +kernel
theorem dX12_told_135 : decode cX12_told 135 = .ok (.invokevirtual 247, 3) := by decide +kernel
theorem dX12_told_138 : decode cX12_told 138 = .ok (.ifCond .eq 7, 3) := by decide +kernel
theorem dX12_told_141 : decode cX12_told 141 = .ok (.iconst 1, 1) := by decide +kernel
theorem dX12_told_142 : decode cX12_told 142 = .ok (.goto 4, 3) := by decide +kernel
theorem dX12_told_145 : decode cX12_told 145 = .ok (.iconst 0, 1) := by decide +kernel
theorem dX12_told_146 : decode cX12_told 146 = .ok (.istore 5, 2) := by decide +kernel
theorem dX12_told_148 : decode cX12_told 148 = .ok (.aload_n 0, 1) := by decide +kernel
theorem dX12_told_149 : decode cX12_told 149 = .ok (.iload_n 1, 1) := by decide +kernel
theorem dX12_told_150 : decode cX12_told 150 = .ok (.bipush 94, 2) := by decide +kernel
theorem dX12_told_152 : decode cX12_told 152 = .ok (.invokevirtual 247, 3) := by decide +kernel
theorem dX12_told_155 : decode cX12_told 155 = .ok (.iconst 1, 1) := by decide +kernel
theorem dX12_told_156 : decode cX12_told 156 = .ok (.isub, 1) := by decide +kernel
theorem dX12_told_157 : decode cX12_told 157 = .ok (.istore 6, 2) := by decide +kernel
theorem dX12_told_159 : decode cX12_told 159 = .ok (.iconst 0, 1) := by decide +kernel
theorem dX12_told_160 : decode cX12_told 160 = .ok (.istore 7, 2) := by decide +kernel
theorem dX12_told_162 : decode cX12_told 162 = .ok (.iload 7, 2) := by decide +kernel
theorem dX12_told_164 : decode cX12_told 164 = .ok (.bipush 32, 2) := by decide +kernel
theorem dX12_told_166 : decode cX12_told 166 = .ok (.if_icmp .ge 35, 3) := by decide +kernel
theorem dX12_told_169 : decode cX12_told 169 = .ok (.iload 6, 2) := by decide +kernel
theorem dX12_told_171 : decode cX12_told 171 = .ok (.ifCond .lt 30, 3) := by decide +kernel
theorem dX12_told_174 : decode cX12_told 174 = .ok (.iload 5, 2) := by decide +kernel
theorem dX12_told_176 : decode cX12_told 176 = .ok (.aload_n 0, 1) := by decide +kernel
theorem dX12_told_177 : decode cX12_told 177 = .ok (.iload 6, 2) := by decide +kernel
theorem dX12_told_179 : decode cX12_told 179 = .ok (.iload 7, 2) := by decide +kernel
theorem dX12_told_181 : decode cX12_told 181 = .ok (.invokevirtual 250, 3) := by decide +kernel
theorem dX12_told_184 : decode cX12_told 184 = .ok (.ifCond .eq 7, 3) := by decide +kernel
theorem dX12_told_187 : decode cX12_told 187 = .ok (.iconst 1, 1) := by decide +kernel
theorem dX12_told_188 : decode cX12_told 188 = .ok (.goto 4, 3) := by decide +kernel
theorem dX12_told_191 : decode cX12_told 191 = .ok (.iconst 0, 1) := by decide +kernel
theorem dX12_told_192 : decode cX12_told 192 = .ok (.iadd, 1) := by decide +kernel
theorem dX12_told_193 : decode cX12_told 193 = .ok (.istore 5, 2) := by decide +kernel
theorem dX12_told_195 : decode cX12_told 195 = .ok (.iinc 7 1, 3) := by decide +kernel
theorem dX12_told_198 : decode cX12_told 198 = .ok (.goto (-36), 3) := by decide +kernel
theorem dX12_told_201 : decode cX12_told 201 = .ok (.iload 6, 2) := by decide +kernel
theorem dX12_told_203 : decode cX12_told 203 = .ok (.ifCond .ge 8, 3) := by decide +kernel
theorem dX12_told_206 : decode cX12_told 206 = .ok (.iload 5, 2) := by decide +kernel
theorem dX12_told_208 : decode cX12_told 208 = .ok (.goto 7, 3) := by decide +kernel
theorem dX12_told_211 : decode cX12_told 211 = .ok (.iload 5, 2) := by decide +kernel
theorem dX12_told_213 : decode cX12_told 213 = .ok (.iconst 1, 1) := by decide +kernel
theorem dX12_told_214 : decode cX12_told 214 = .ok (.iadd, 1) := by decide +kernel
theorem dX12_told_215 : decode cX12_told 215 = .ok (.ireturn, 1) := by decide +kernel
theorem dX12_told_216 : decode cX12_told 216 = .ok (.iload_n 3, 1) := by decide +kernel
theorem dX12_told_217 : decode cX12_told 217 = .ok (.iconst 2, 1) := by decide +kernel
theorem dX12_told_218 : decode cX12_told 218 = .ok (.if_icmp .ne 44, 3) := by decide +kernel
theorem dX12_told_221 : decode cX12_told 221 = .ok (.iconst 0, 1) := by decide +kernel
theorem dX12_told_222 : decode cX12_told 222 = .ok (.istore 7, 2) := by decide +kernel
theorem dX12_told_224 : decode cX12_told 224 = .ok (.iload 7, 2) := by decide +kernel
theorem dX12_told_226 : decode cX12_told 226 = .ok (.aload_n 0, 1) := by decide +kernel
theorem dX12_told_227 : decode cX12_told 227 = .ok (.iload_n 1, 1) := by decide +kernel
theorem dX12_told_228 : decode cX12_told 228 = .ok (.invokevirtual 299, 3) := by decide +kernel
theorem dX12_told_231 : decode cX12_told 231 = .ok (.if_icmp .ge 31, 3) := by decide +kernel
theorem dX12_told_234 : decode cX12_told 234 = .ok (.iload 5, 2) := by decide +kernel
theorem dX12_told_236 : decode cX12_told 236 = .ok (.aload_n 0, 1) := by decide +kernel
theorem dX12_told_237 : decode cX12_told 237 = .ok (.iload_n 1, 1) := by decide +kernel
theorem dX12_told_238 : decode cX12_told 238 = .ok (.iload 7, 2) := by decide +kernel
theorem dX12_told_240 : decode cX12_told 240 = .ok (.invokevirtual 302, 3) := by decide +kernel
theorem dX12_told_243 : decode cX12_told 243 = .ok (.bipush 64, 2) := by decide +kernel
theorem dX12_told_245 : decode cX12_told 245 = .ok (.if_icmp .eq 7, 3) := by decide +kernel
theorem dX12_told_248 : decode cX12_told 248 = .ok (.iconst 1, 1) := by decide +kernel
theorem dX12_told_249 : decode cX12_told 249 = .ok (.goto 4, 3) := by decide +kernel
theorem dX12_told_252 : decode cX12_told 252 = .ok (.iconst 0, 1) := by decide +kernel
theorem dX12_told_253 : decode cX12_told 253 = .ok (.iadd, 1) := by decide +kernel
theorem dX12_told_254 : decode cX12_told 254 = .ok (.istore 5, 2) := by decide +kernel
theorem dX12_told_256 : decode cX12_told 256 = .ok (.iinc 7 1, 3) := by decide +kernel
theorem dX12_told_259 : decode cX12_told 259 = .ok (.goto (-35), 3) := by decide +kernel
theorem dX12_told_262 : decode cX12_told 262 = .ok (.iload 5, 2) := by decide +kernel
theorem dX12_told_264 : decode cX12_told 264 = .ok (.ireturn, 1) := by decide +kernel
set_option maxRecDepth 100000 in
set_option maxHeartbeats 1000000 in
theorem j_X12_told_74 {p : Program} {l : Launch} {e : Env} {s : State} {m : MethodId} {args : Array Value} {below : List Frame} {meth : Method} {c : Code} {D : va_G} {aC : Nat → ClassId} {b0 fu : Nat} {σ0 τ : tM} {v : Int32}  (C : tCx p l s m args meth c yX12_told.cls cX12_told 8 (some .int) D aC b0 σ0) (htab : ∀ x ∈ c.exceptionTable.toList, False) (hin : meth.name = yX12_told.name)  {s0 : Int32} {σ : tM} (hm : J_X12_told_74 b0 fu  s0 σ = some (v, τ)) : tX p l e s m args below meth c 8 6 134 D aC b0 σ0 (.inl (some (.int v))) τ 74 [] [.int (s0)] σ := by
  unfold J_X12_told_74 at hm
  obtain ⟨rfl, rfl⟩ := ret_e hm
  exact zx_iret C rfl rfl rfl dX12_told_74
set_option maxRecDepth 100000 in
set_option maxHeartbeats 1000000 in
theorem j_X12_told_119 {p : Program} {l : Launch} {e : Env} {s : State} {m : MethodId} {args : Array Value} {below : List Frame} {meth : Method} {c : Code} {D : va_G} {aC : Nat → ClassId} {b0 fu : Nat} {σ0 τ : tM} {v : Int32} {rc87 : Nat → Int32 → Int32 → Int32 → Int32 → tM → Option ((Int32) × tM)} (C : tCx p l s m args meth c yX12_told.cls cX12_told 8 (some .int) D aC b0 σ0) (htab : ∀ x ∈ c.exceptionTable.toList, False) (hin : meth.name = yX12_told.name) (hrc87 : ∀ (x0 : Nat) (x1 : Int32) (x4 : Int32) (x5 : Int32) (x6 : Int32) (ρ : tM), rc87 x0 x1 x4 x5 x6 ρ = some (v, τ) → tX p l e s m args below meth c 8 6 134 D aC b0 σ0 (.inl (some (.int v))) τ 87 [(0, .ref (x0)), (1, .int (x1)), (4, .int (x4)), (5, .int (x5)), (6, .int (x6))] [] ρ) {x0 : Nat} {x1 : Int32} {x4 : Int32} {x6 : Int32} {s0 : Int32} {s1 : Int32} {σ : tM} (hm : J_X12_told_119 b0 fu rc87 x0 x1 x4 x6 s0 s1 σ = some (v, τ)) : tX p l e s m args below meth c 8 6 134 D aC b0 σ0 (.inl (some (.int v))) τ 119 [(0, .ref (x0)), (1, .int (x1)), (4, .int (x4)), (6, .int (x6))] [.int (s1), .int (s0)] σ := by
  unfold J_X12_told_119 at hm
  refine zx_iadd C dX12_told_119 ?_
  refine zx_topi (fun y29 hy29 => ?_)
  replace hm := ltb_e hm hy29
  refine zx_istore C [(5, .int (y29)), (0, .ref (x0)), (1, .int (x1)), (4, .int (x4)), (6, .int (x6))] dX12_told_120 (by decide) rfl ?_
  obtain ⟨y30, hy30⟩ : ∃ z : Int32, z = (x6) + Int32.ofInt 1 := ⟨_, rfl⟩
  replace hm := ltb_e hm hy30
  refine zx_iinc C [(6, .int (y30)), (5, .int (y29)), (0, .ref (x0)), (1, .int (x1)), (4, .int (x4))] dX12_told_122 4 rfl hy30.symm (by decide) rfl ?_
  refine zx_goto C 87 dX12_told_125 (by decide) ?_
  exact zx_lv [2, 3, 4, 1, 0] [(0, .ref (x0)), (1, .int (x1)), (4, .int (x4)), (5, .int (y29)), (6, .int (y30))] rfl (hrc87 _ _ _ _ _ _ hm)
set_option maxRecDepth 100000 in
set_option maxHeartbeats 1000000 in
theorem l_X12_told_87 {p : Program} {l : Launch} {e : Env} {s : State} {m : MethodId} {args : Array Value} {below : List Frame} {meth : Method} {c : Code} {D : va_G} {aC : Nat → ClassId} {b0 fu : Nat} {σ0 τ : tM} {v : Int32}  (C : tCx p l s m args meth c yX12_told.cls cX12_told 8 (some .int) D aC b0 σ0) (htab : ∀ x ∈ c.exceptionTable.toList, False) (hin : meth.name = yX12_told.name)  : ∀ (n : Nat) (x0 : Nat) (x1 : Int32) (x4 : Int32) (x5 : Int32) (x6 : Int32) (σ : tM), L_X12_told_87 b0 fu  n x0 x1 x4 x5 x6 σ = some (v, τ) → tX p l e s m args below meth c 8 6 134 D aC b0 σ0 (.inl (some (.int v))) τ 87 [(0, .ref (x0)), (1, .int (x1)), (4, .int (x4)), (5, .int (x5)), (6, .int (x6))] [] σ := by
  intro n
  induction n with
  | zero => intro x0 x1 x4 x5 x6 σ hm; unfold L_X12_told_87 at hm; cases hm
  | succ n ih =>
    intro x0 x1 x4 x5 x6 σ hm
    unfold L_X12_told_87 at hm
    obtain ⟨rc87, hrc⟩ : ∃ z, z = L_X12_told_87 b0 fu  n := ⟨_, rfl⟩
    replace hm := ltb_e hm hrc
    rw [← hrc] at ih
    have hrc87 := ih
    clear ih hrc
    refine zx_iload C dX12_told_87 4 rfl ?_
    refine zx_iload C dX12_told_89 2 rfl ?_
    refine zx_sipush (v := 255) C dX12_told_91 (by decide) ?_
    refine zx_iadd C dX12_told_94 ?_
    refine zx_sipush (v := 256) C dX12_told_95 (by decide) ?_
    refine zx_idiv C dX12_told_98 (by decide) ?_
    refine zx_icmp_ge C 128 dX12_told_99 (by decide) (fun c22 => ?_) (fun c22 => ?_)
    · replace hm := ip_e hm c22
      refine zx_iload C dX12_told_128 3 rfl ?_
      obtain ⟨rfl, rfl⟩ := ret_e hm
      exact zx_iret C rfl rfl rfl dX12_told_130
    · replace hm := in_e hm c22
      refine zx_iload C dX12_told_102 3 rfl ?_
      refine zx_aload_n C dX12_told_104 0 rfl ?_
      refine zx_iload_n C dX12_told_105 1 rfl ?_
      refine zx_iload C dX12_told_106 4 rfl ?_
      obtain ⟨k23, i24, hm⟩ := ckO_e hm
      obtain ⟨v25, ρ26, h27, hm⟩ := cll_e hm
      refine zx_callV (σ := σ) C [.int (x1), .int (x6)] tC_11 k23 i24 Y_X12_has W_8_60 W_8_62 Wp_85 (c_X12_has h27) (by decide) (by decide) rfl (Nat.le_of_ble_eq_true rfl) dX12_told_108 rfl ?_
      refine zx_if_eq C 118 dX12_told_111 (by decide) (fun c28 => ?_) (fun c28 => ?_)
      · replace hm := ip_e hm c28
        refine zx_iconst (v := 0) C dX12_told_118 (by decide) ?_
        exact zx_lv [0, 1, 2, 4] [(0, .ref (x0)), (1, .int (x1)), (4, .int (x4)), (6, .int (x6))] rfl (j_X12_told_119 C htab hin hrc87   hm)
      · replace hm := in_e hm c28
        refine zx_iconst (v := 1) C dX12_told_114 (by decide) ?_
        refine zx_goto C 119 dX12_told_115 (by decide) ?_
        exact zx_lv [0, 1, 2, 4] [(0, .ref (x0)), (1, .int (x1)), (4, .int (x4)), (6, .int (x6))] rfl (j_X12_told_119 C htab hin hrc87   hm)
set_option maxRecDepth 100000 in
set_option maxHeartbeats 1000000 in
theorem j_X12_told_215 {p : Program} {l : Launch} {e : Env} {s : State} {m : MethodId} {args : Array Value} {below : List Frame} {meth : Method} {c : Code} {D : va_G} {aC : Nat → ClassId} {b0 fu : Nat} {σ0 τ : tM} {v : Int32}  (C : tCx p l s m args meth c yX12_told.cls cX12_told 8 (some .int) D aC b0 σ0) (htab : ∀ x ∈ c.exceptionTable.toList, False) (hin : meth.name = yX12_told.name)  {s0 : Int32} {σ : tM} (hm : J_X12_told_215 b0 fu  s0 σ = some (v, τ)) : tX p l e s m args below meth c 8 6 134 D aC b0 σ0 (.inl (some (.int v))) τ 215 [] [.int (s0)] σ := by
  unfold J_X12_told_215 at hm
  obtain ⟨rfl, rfl⟩ := ret_e hm
  exact zx_iret C rfl rfl rfl dX12_told_215
set_option maxRecDepth 100000 in
set_option maxHeartbeats 1000000 in
theorem j_X12_told_201 {p : Program} {l : Launch} {e : Env} {s : State} {m : MethodId} {args : Array Value} {below : List Frame} {meth : Method} {c : Code} {D : va_G} {aC : Nat → ClassId} {b0 fu : Nat} {σ0 τ : tM} {v : Int32}  (C : tCx p l s m args meth c yX12_told.cls cX12_told 8 (some .int) D aC b0 σ0) (htab : ∀ x ∈ c.exceptionTable.toList, False) (hin : meth.name = yX12_told.name)  {x5 : Int32} {x6 : Int32} {σ : tM} (hm : J_X12_told_201 b0 fu  x5 x6 σ = some (v, τ)) : tX p l e s m args below meth c 8 6 134 D aC b0 σ0 (.inl (some (.int v))) τ 201 [(5, .int (x5)), (6, .int (x6))] [] σ := by
  unfold J_X12_told_201 at hm
  refine zx_iload C dX12_told_201 1 rfl ?_
  refine zx_if_ge C 211 dX12_told_203 (by decide) (fun c45 => ?_) (fun c45 => ?_)
  · replace hm := ip_e hm c45
    refine zx_iload C dX12_told_211 0 rfl ?_
    refine zx_iconst (v := 1) C dX12_told_213 (by decide) ?_
    refine zx_iadd C dX12_told_214 ?_
    exact zx_lv [] [] rfl (j_X12_told_215 C htab hin    hm)
  · replace hm := in_e hm c45
    refine zx_iload C dX12_told_206 0 rfl ?_
    refine zx_goto C 215 dX12_told_208 (by decide) ?_
    exact zx_lv [] [] rfl (j_X12_told_215 C htab hin    hm)
set_option maxRecDepth 100000 in
set_option maxHeartbeats 1000000 in
theorem j_X12_told_192 {p : Program} {l : Launch} {e : Env} {s : State} {m : MethodId} {args : Array Value} {below : List Frame} {meth : Method} {c : Code} {D : va_G} {aC : Nat → ClassId} {b0 fu : Nat} {σ0 τ : tM} {v : Int32} {rc162 : Nat → Int32 → Int32 → Int32 → tM → Option ((Int32) × tM)} (C : tCx p l s m args meth c yX12_told.cls cX12_told 8 (some .int) D aC b0 σ0) (htab : ∀ x ∈ c.exceptionTable.toList, False) (hin : meth.name = yX12_told.name) (hrc162 : ∀ (x0 : Nat) (x5 : Int32) (x6 : Int32) (x7 : Int32) (ρ : tM), rc162 x0 x5 x6 x7 ρ = some (v, τ) → tX p l e s m args below meth c 8 6 134 D aC b0 σ0 (.inl (some (.int v))) τ 162 [(0, .ref (x0)), (5, .int (x5)), (6, .int (x6)), (7, .int (x7))] [] ρ) {x0 : Nat} {x6 : Int32} {x7 : Int32} {s0 : Int32} {s1 : Int32} {σ : tM} (hm : J_X12_told_192 b0 fu rc162 x0 x6 x7 s0 s1 σ = some (v, τ)) : tX p l e s m args below meth c 8 6 134 D aC b0 σ0 (.inl (some (.int v))) τ 192 [(0, .ref (x0)), (6, .int (x6)), (7, .int (x7))] [.int (s1), .int (s0)] σ := by
  unfold J_X12_told_192 at hm
  refine zx_iadd C dX12_told_192 ?_
  refine zx_topi (fun y53 hy53 => ?_)
  replace hm := ltb_e hm hy53
  refine zx_istore C [(5, .int (y53)), (0, .ref (x0)), (6, .int (x6)), (7, .int (x7))] dX12_told_193 (by decide) rfl ?_
  obtain ⟨y54, hy54⟩ : ∃ z : Int32, z = (x7) + Int32.ofInt 1 := ⟨_, rfl⟩
  replace hm := ltb_e hm hy54
  refine zx_iinc C [(7, .int (y54)), (5, .int (y53)), (0, .ref (x0)), (6, .int (x6))] dX12_told_195 3 rfl hy54.symm (by decide) rfl ?_
  refine zx_goto C 162 dX12_told_198 (by decide) ?_
  exact zx_lv [2, 1, 3, 0] [(0, .ref (x0)), (5, .int (y53)), (6, .int (x6)), (7, .int (y54))] rfl (hrc162 _ _ _ _ _ hm)
set_option maxRecDepth 100000 in
set_option maxHeartbeats 1000000 in
theorem l_X12_told_162 {p : Program} {l : Launch} {e : Env} {s : State} {m : MethodId} {args : Array Value} {below : List Frame} {meth : Method} {c : Code} {D : va_G} {aC : Nat → ClassId} {b0 fu : Nat} {σ0 τ : tM} {v : Int32}  (C : tCx p l s m args meth c yX12_told.cls cX12_told 8 (some .int) D aC b0 σ0) (htab : ∀ x ∈ c.exceptionTable.toList, False) (hin : meth.name = yX12_told.name)  : ∀ (n : Nat) (x0 : Nat) (x5 : Int32) (x6 : Int32) (x7 : Int32) (σ : tM), L_X12_told_162 b0 fu  n x0 x5 x6 x7 σ = some (v, τ) → tX p l e s m args below meth c 8 6 134 D aC b0 σ0 (.inl (some (.int v))) τ 162 [(0, .ref (x0)), (5, .int (x5)), (6, .int (x6)), (7, .int (x7))] [] σ := by
  intro n
  induction n with
  | zero => intro x0 x5 x6 x7 σ hm; unfold L_X12_told_162 at hm; cases hm
  | succ n ih =>
    intro x0 x5 x6 x7 σ hm
    unfold L_X12_told_162 at hm
    obtain ⟨rc162, hrc⟩ : ∃ z, z = L_X12_told_162 b0 fu  n := ⟨_, rfl⟩
    replace hm := ltb_e hm hrc
    rw [← hrc] at ih
    have hrc162 := ih
    clear ih hrc
    refine zx_iload C dX12_told_162 3 rfl ?_
    refine zx_bipush (v := 32) C dX12_told_164 (by decide) ?_
    refine zx_icmp_ge C 201 dX12_told_166 (by decide) (fun c44 => ?_) (fun c44 => ?_)
    · replace hm := ip_e hm c44
      exact zx_lv [1, 2] [(5, .int (x5)), (6, .int (x6))] rfl (j_X12_told_201 C htab hin    hm)
    · replace hm := in_e hm c44
      refine zx_iload C dX12_told_169 2 rfl ?_
      refine zx_if_lt C 201 dX12_told_171 (by decide) (fun c46 => ?_) (fun c46 => ?_)
      · replace hm := ip_e hm c46
        exact zx_lv [1, 2] [(5, .int (x5)), (6, .int (x6))] rfl (j_X12_told_201 C htab hin    hm)
      · replace hm := in_e hm c46
        refine zx_iload C dX12_told_174 1 rfl ?_
        refine zx_aload_n C dX12_told_176 0 rfl ?_
        refine zx_iload C dX12_told_177 2 rfl ?_
        refine zx_iload C dX12_told_179 3 rfl ?_
        obtain ⟨k47, i48, hm⟩ := ckO_e hm
        obtain ⟨v49, ρ50, h51, hm⟩ := cll_e hm
        refine zx_callV (σ := σ) C [.int (x6), .int (x7)] tC_11 k47 i48 Y_X12_pointer W_8_68 W_8_70 Wp_87 (c_X12_pointer h51) (by decide) (by decide) rfl (Nat.le_of_ble_eq_true rfl) dX12_told_181 rfl ?_
        refine zx_if_eq C 191 dX12_told_184 (by decide) (fun c52 => ?_) (fun c52 => ?_)
        · replace hm := ip_e hm c52
          refine zx_iconst (v := 0) C dX12_told_191 (by decide) ?_
          exact zx_lv [0, 2, 3] [(0, .ref (x0)), (6, .int (x6)), (7, .int (x7))] rfl (j_X12_told_192 C htab hin hrc162   hm)
        · replace hm := in_e hm c52
          refine zx_iconst (v := 1) C dX12_told_187 (by decide) ?_
          refine zx_goto C 192 dX12_told_188 (by decide) ?_
          exact zx_lv [0, 2, 3] [(0, .ref (x0)), (6, .int (x6)), (7, .int (x7))] rfl (j_X12_told_192 C htab hin hrc162   hm)
set_option maxRecDepth 100000 in
set_option maxHeartbeats 1000000 in
theorem j_X12_told_146 {p : Program} {l : Launch} {e : Env} {s : State} {m : MethodId} {args : Array Value} {below : List Frame} {meth : Method} {c : Code} {D : va_G} {aC : Nat → ClassId} {b0 fu : Nat} {σ0 τ : tM} {v : Int32}  (C : tCx p l s m args meth c yX12_told.cls cX12_told 8 (some .int) D aC b0 σ0) (htab : ∀ x ∈ c.exceptionTable.toList, False) (hin : meth.name = yX12_told.name)  {x0 : Nat} {x1 : Int32} {s0 : Int32} {σ : tM} (hm : J_X12_told_146 b0 fu  x0 x1 s0 σ = some (v, τ)) : tX p l e s m args below meth c 8 6 134 D aC b0 σ0 (.inl (some (.int v))) τ 146 [(0, .ref (x0)), (1, .int (x1))] [.int (s0)] σ := by
  unfold J_X12_told_146 at hm
  refine zx_istore C [(5, .int (s0)), (0, .ref (x0)), (1, .int (x1))] dX12_told_146 (by decide) rfl ?_
  refine zx_aload_n C dX12_told_148 1 rfl ?_
  refine zx_iload_n C dX12_told_149 2 rfl ?_
  refine zx_bipush (v := 94) C dX12_told_150 (by decide) ?_
  obtain ⟨k38, i39, hm⟩ := ckO_e hm
  obtain ⟨v40, ρ41, h42, hm⟩ := cll_e hm
  refine zx_callV (σ := σ) C [.int (x1), .int (94)] tC_11 k38 i39 Y_X12_node W_8_40 W_8_42 Wp_80 (c_X12_node h42) (by decide) (by decide) rfl (Nat.le_of_ble_eq_true rfl) dX12_told_152 rfl ?_
  refine zx_iconst (v := 1) C dX12_told_155 (by decide) ?_
  refine zx_isub C dX12_told_156 ?_
  refine zx_topi (fun y43 hy43 => ?_)
  replace hm := ltb_e hm hy43
  refine zx_istore C [(6, .int (y43)), (5, .int (s0)), (0, .ref (x0)), (1, .int (x1))] dX12_told_157 (by decide) rfl ?_
  refine zx_iconst (v := 0) C dX12_told_159 (by decide) ?_
  refine zx_istore C [(7, .int (0)), (6, .int (y43)), (5, .int (s0)), (0, .ref (x0)), (1, .int (x1))] dX12_told_160 (by decide) rfl ?_
  exact zx_lv [3, 2, 1, 0] [(0, .ref (x0)), (5, .int (s0)), (6, .int (y43)), (7, .int (0))] rfl (l_X12_told_162 C htab hin  _ _ _ _ _ _ hm)
set_option maxRecDepth 100000 in
set_option maxHeartbeats 1000000 in
theorem j_X12_told_262 {p : Program} {l : Launch} {e : Env} {s : State} {m : MethodId} {args : Array Value} {below : List Frame} {meth : Method} {c : Code} {D : va_G} {aC : Nat → ClassId} {b0 fu : Nat} {σ0 τ : tM} {v : Int32}  (C : tCx p l s m args meth c yX12_told.cls cX12_told 8 (some .int) D aC b0 σ0) (htab : ∀ x ∈ c.exceptionTable.toList, False) (hin : meth.name = yX12_told.name)  {x5 : Int32} {σ : tM} (hm : J_X12_told_262 b0 fu  x5 σ = some (v, τ)) : tX p l e s m args below meth c 8 6 134 D aC b0 σ0 (.inl (some (.int v))) τ 262 [(5, .int (x5))] [] σ := by
  unfold J_X12_told_262 at hm
  refine zx_iload C dX12_told_262 0 rfl ?_
  obtain ⟨rfl, rfl⟩ := ret_e hm
  exact zx_iret C rfl rfl rfl dX12_told_264
set_option maxRecDepth 100000 in
set_option maxHeartbeats 1000000 in
theorem j_X12_told_253 {p : Program} {l : Launch} {e : Env} {s : State} {m : MethodId} {args : Array Value} {below : List Frame} {meth : Method} {c : Code} {D : va_G} {aC : Nat → ClassId} {b0 fu : Nat} {σ0 τ : tM} {v : Int32} {rc224 : Nat → Int32 → Int32 → Int32 → tM → Option ((Int32) × tM)} (C : tCx p l s m args meth c yX12_told.cls cX12_told 8 (some .int) D aC b0 σ0) (htab : ∀ x ∈ c.exceptionTable.toList, False) (hin : meth.name = yX12_told.name) (hrc224 : ∀ (x0 : Nat) (x1 : Int32) (x5 : Int32) (x7 : Int32) (ρ : tM), rc224 x0 x1 x5 x7 ρ = some (v, τ) → tX p l e s m args below meth c 8 6 134 D aC b0 σ0 (.inl (some (.int v))) τ 224 [(0, .ref (x0)), (1, .int (x1)), (5, .int (x5)), (7, .int (x7))] [] ρ) {x0 : Nat} {x1 : Int32} {x7 : Int32} {s0 : Int32} {s1 : Int32} {σ : tM} (hm : J_X12_told_253 b0 fu rc224 x0 x1 x7 s0 s1 σ = some (v, τ)) : tX p l e s m args below meth c 8 6 134 D aC b0 σ0 (.inl (some (.int v))) τ 253 [(0, .ref (x0)), (1, .int (x1)), (7, .int (x7))] [.int (s1), .int (s0)] σ := by
  unfold J_X12_told_253 at hm
  refine zx_iadd C dX12_told_253 ?_
  refine zx_topi (fun y68 hy68 => ?_)
  replace hm := ltb_e hm hy68
  refine zx_istore C [(5, .int (y68)), (0, .ref (x0)), (1, .int (x1)), (7, .int (x7))] dX12_told_254 (by decide) rfl ?_
  obtain ⟨y69, hy69⟩ : ∃ z : Int32, z = (x7) + Int32.ofInt 1 := ⟨_, rfl⟩
  replace hm := ltb_e hm hy69
  refine zx_iinc C [(7, .int (y69)), (5, .int (y68)), (0, .ref (x0)), (1, .int (x1))] dX12_told_256 3 rfl hy69.symm (by decide) rfl ?_
  refine zx_goto C 224 dX12_told_259 (by decide) ?_
  exact zx_lv [2, 3, 1, 0] [(0, .ref (x0)), (1, .int (x1)), (5, .int (y68)), (7, .int (y69))] rfl (hrc224 _ _ _ _ _ hm)
set_option maxRecDepth 100000 in
set_option maxHeartbeats 1000000 in
theorem l_X12_told_224 {p : Program} {l : Launch} {e : Env} {s : State} {m : MethodId} {args : Array Value} {below : List Frame} {meth : Method} {c : Code} {D : va_G} {aC : Nat → ClassId} {b0 fu : Nat} {σ0 τ : tM} {v : Int32}  (C : tCx p l s m args meth c yX12_told.cls cX12_told 8 (some .int) D aC b0 σ0) (htab : ∀ x ∈ c.exceptionTable.toList, False) (hin : meth.name = yX12_told.name)  : ∀ (n : Nat) (x0 : Nat) (x1 : Int32) (x5 : Int32) (x7 : Int32) (σ : tM), L_X12_told_224 b0 fu  n x0 x1 x5 x7 σ = some (v, τ) → tX p l e s m args below meth c 8 6 134 D aC b0 σ0 (.inl (some (.int v))) τ 224 [(0, .ref (x0)), (1, .int (x1)), (5, .int (x5)), (7, .int (x7))] [] σ := by
  intro n
  induction n with
  | zero => intro x0 x1 x5 x7 σ hm; unfold L_X12_told_224 at hm; cases hm
  | succ n ih =>
    intro x0 x1 x5 x7 σ hm
    unfold L_X12_told_224 at hm
    obtain ⟨rc224, hrc⟩ : ∃ z, z = L_X12_told_224 b0 fu  n := ⟨_, rfl⟩
    replace hm := ltb_e hm hrc
    rw [← hrc] at ih
    have hrc224 := ih
    clear ih hrc
    refine zx_iload C dX12_told_224 3 rfl ?_
    refine zx_aload_n C dX12_told_226 0 rfl ?_
    refine zx_iload_n C dX12_told_227 1 rfl ?_
    obtain ⟨k56, i57, hm⟩ := ckO_e hm
    obtain ⟨v58, ρ59, h60, hm⟩ := cll_e hm
    refine zx_callV (σ := σ) C [.int (x1)] tC_11 k56 i57 Y_X12_entries W_8_48 W_8_50 Wp_82 (c_X12_entries h60) (by decide) (by decide) rfl (Nat.le_of_ble_eq_true rfl) dX12_told_228 rfl ?_
    refine zx_icmp_ge C 262 dX12_told_231 (by decide) (fun c61 => ?_) (fun c61 => ?_)
    · replace hm := ip_e hm c61
      exact zx_lv [2] [(5, .int (x5))] rfl (j_X12_told_262 C htab hin    hm)
    · replace hm := in_e hm c61
      refine zx_iload C dX12_told_234 2 rfl ?_
      refine zx_aload_n C dX12_told_236 0 rfl ?_
      refine zx_iload_n C dX12_told_237 1 rfl ?_
      refine zx_iload C dX12_told_238 3 rfl ?_
      obtain ⟨k62, i63, hm⟩ := ckO_e hm
      obtain ⟨v64, ρ65, h66, hm⟩ := cll_e hm
      refine zx_callV (σ := ρ59) C [.int (x1), .int (x7)] tC_11 k62 i63 Y_X12_entryNode W_8_52 W_8_54 Wp_83 (c_X12_entryNode h66) (by decide) (by decide) rfl (Nat.le_of_ble_eq_true rfl) dX12_told_240 rfl ?_
      refine zx_bipush (v := 64) C dX12_told_243 (by decide) ?_
      refine zx_icmp_eq C 252 dX12_told_245 (by decide) (fun c67 => ?_) (fun c67 => ?_)
      · replace hm := ip_e hm c67
        refine zx_iconst (v := 0) C dX12_told_252 (by decide) ?_
        exact zx_lv [0, 1, 3] [(0, .ref (x0)), (1, .int (x1)), (7, .int (x7))] rfl (j_X12_told_253 C htab hin hrc224   hm)
      · replace hm := in_e hm c67
        refine zx_iconst (v := 1) C dX12_told_248 (by decide) ?_
        refine zx_goto C 253 dX12_told_249 (by decide) ?_
        exact zx_lv [0, 1, 3] [(0, .ref (x0)), (1, .int (x1)), (7, .int (x7))] rfl (j_X12_told_253 C htab hin hrc224   hm)
set_option maxRecDepth 100000 in
set_option maxHeartbeats 1000000 in
theorem c_X12_told {l : Launch} {D : va_G} {aC : Nat → ClassId} {b0 fu : Nat} {a0 : Nat} {p0 : Int32} {p1 : Int32} {σ τ : tM} {v : Int32} (hm : m_X12_told b0 fu a0 p0 p1 σ = some (v, τ)) : tMt l D aC b0 yX12_told (Cond.code yX12_told cX12_told 8 (some .int)) 6 134 [.ref (a0), .int (p0), .int (p1)] σ (.inl (some (.int v))) τ := by
  unfold m_X12_told at hm
  obtain ⟨hg, hm⟩ := grw_e hm
  refine tMt_of (n := 0) rfl (Nat.le_of_ble_eq_true rfl) hg ?_
  intro p e s m below meth c C htab hin
  refine zx_lv [0, 1, 2] [(0, .ref (a0)), (1, .int (p0)), (2, .int (p1))] rfl ?_
  refine zx_aload_n C dX12_told_0 0 rfl ?_
  refine zx_iload_n C dX12_told_1 1 rfl ?_
  refine zx_iconst (v := 0) C dX12_told_2 (by decide) ?_
  obtain ⟨k1, i2, hm⟩ := ckO_e hm
  obtain ⟨v3, ρ4, h5, hm⟩ := cll_e hm
  refine zx_callV (σ := σ) C [.int (p0), .int (0)] tC_11 k1 i2 Y_X12_node W_8_40 W_8_42 Wp_80 (c_X12_node h5) (by decide) (by decide) rfl (Nat.le_of_ble_eq_true rfl) dX12_told_3 rfl ?_
  refine zx_istore_n C [(3, .int (v3)), (0, .ref (a0)), (1, .int (p0)), (2, .int (p1))] dX12_told_6 rfl (by decide) rfl ?_
  refine zx_aload_n C dX12_told_7 1 rfl ?_
  refine zx_iload_n C dX12_told_8 2 rfl ?_
  refine zx_iconst (v := 1) C dX12_told_9 (by decide) ?_
  obtain ⟨k6, i7, hm⟩ := ckO_e hm
  obtain ⟨v8, ρ9, h10, hm⟩ := cll_e hm
  refine zx_callV (σ := ρ4) C [.int (p0), .int (1)] tC_11 k6 i7 Y_X12_node W_8_40 W_8_42 Wp_80 (c_X12_node h10) (by decide) (by decide) rfl (Nat.le_of_ble_eq_true rfl) dX12_told_10 rfl ?_
  refine zx_istore C [(4, .int (v8)), (3, .int (v3)), (0, .ref (a0)), (1, .int (p0)), (2, .int (p1))] dX12_told_13 (by decide) rfl ?_
  refine zx_iconst (v := 0) C dX12_told_15 (by decide) ?_
  refine zx_istore C [(5, .int (0)), (4, .int (v8)), (3, .int (v3)), (0, .ref (a0)), (1, .int (p0)), (2, .int (p1))] dX12_told_16 (by decide) rfl ?_
  refine zx_iload_n C dX12_told_18 5 rfl ?_
  rcases Classical.em ((p1) = (0)) with c19_0 | c19_0
  · replace hm := ip_e hm c19_0
    refine zx_tabIn (off := 37) C 56 dX12_told_19 (by rw [c19_0]; decide) (by rw [c19_0]; decide) (by rw [c19_0]; decide) (by decide) ?_
    refine zx_iload_n C dX12_told_56 2 rfl ?_
    obtain ⟨rfl, rfl⟩ := ret_e hm
    exact zx_iret C rfl rfl rfl dX12_told_57
  · replace hm := in_e hm c19_0
    rcases Classical.em ((p1) = (1)) with c19_1 | c19_1
    · replace hm := ip_e hm c19_1
      refine zx_tabIn (off := 39) C 58 dX12_told_19 (by rw [c19_1]; decide) (by rw [c19_1]; decide) (by rw [c19_1]; decide) (by decide) ?_
      refine zx_iload_n C dX12_told_58 2 rfl ?_
      refine zx_iconst (v := 3) C dX12_told_59 (by decide) ?_
      refine zx_icmp_ne C 72 dX12_told_60 (by decide) (fun c11 => ?_) (fun c11 => ?_)
      · replace hm := in_e hm c11
        refine zx_iload C dX12_told_72 1 rfl ?_
        exact zx_lv [] [] rfl (j_X12_told_74 C htab hin    hm)
      · replace hm := ip_e hm c11
        refine zx_aload_n C dX12_told_63 3 rfl ?_
        refine zx_iload_n C dX12_told_64 4 rfl ?_
        refine zx_iconst (v := 4) C dX12_told_65 (by decide) ?_
        obtain ⟨k12, i13, hm⟩ := ckO_e hm
        obtain ⟨v14, ρ15, h16, hm⟩ := cll_e hm
        refine zx_callV (σ := ρ9) C [.int (p0), .int (4)] tC_11 k12 i13 Y_X12_node W_8_40 W_8_42 Wp_80 (c_X12_node h16) (by decide) (by decide) rfl (Nat.le_of_ble_eq_true rfl) dX12_told_66 rfl ?_
        refine zx_goto C 74 dX12_told_69 (by decide) ?_
        exact zx_lv [] [] rfl (j_X12_told_74 C htab hin    hm)
    · replace hm := in_e hm c19_1
      rcases Classical.em ((p1) = (2)) with c19_2 | c19_2
      · replace hm := ip_e hm c19_2
        refine zx_tabIn (off := 56) C 75 dX12_told_19 (by rw [c19_2]; decide) (by rw [c19_2]; decide) (by rw [c19_2]; decide) (by decide) ?_
        refine zx_aload_n C dX12_told_75 3 rfl ?_
        refine zx_iload_n C dX12_told_76 4 rfl ?_
        refine zx_iconst (v := 2) C dX12_told_77 (by decide) ?_
        obtain ⟨k17, i18, hm⟩ := ckO_e hm
        obtain ⟨v19, ρ20, h21, hm⟩ := cll_e hm
        refine zx_callV (σ := ρ9) C [.int (p0), .int (2)] tC_11 k17 i18 Y_X12_node W_8_40 W_8_42 Wp_80 (c_X12_node h21) (by decide) (by decide) rfl (Nat.le_of_ble_eq_true rfl) dX12_told_78 rfl ?_
        obtain ⟨rfl, rfl⟩ := ret_e hm
        exact zx_iret C rfl rfl rfl dX12_told_81
      · replace hm := in_e hm c19_2
        rcases Classical.em ((p1) = (3)) with c19_3 | c19_3
        · replace hm := ip_e hm c19_3
          refine zx_tabIn (off := 63) C 82 dX12_told_19 (by rw [c19_3]; decide) (by rw [c19_3]; decide) (by rw [c19_3]; decide) (by decide) ?_
          refine zx_iload_n C dX12_told_82 4 rfl ?_
          obtain ⟨rfl, rfl⟩ := ret_e hm
          exact zx_iret C rfl rfl rfl dX12_told_83
        · replace hm := in_e hm c19_3
          rcases Classical.em ((p1) = (4)) with c19_4 | c19_4
          · replace hm := ip_e hm c19_4
            refine zx_tabIn (off := 65) C 84 dX12_told_19 (by rw [c19_4]; decide) (by rw [c19_4]; decide) (by rw [c19_4]; decide) (by decide) ?_
            refine zx_iconst (v := 0) C dX12_told_84 (by decide) ?_
            refine zx_istore C [(6, .int (0)), (5, .int (0)), (4, .int (v8)), (3, .int (v3)), (0, .ref (a0)), (1, .int (p0)), (2, .int (p1))] dX12_told_85 (by decide) rfl ?_
            exact zx_lv [4, 5, 2, 1, 0] [(0, .ref (a0)), (1, .int (p0)), (4, .int (v8)), (5, .int (0)), (6, .int (0))] rfl (l_X12_told_87 C htab hin  _ _ _ _ _ _ _ hm)
          · replace hm := in_e hm c19_4
            rcases Classical.em ((p1) = (5)) with c19_5 | c19_5
            · replace hm := ip_e hm c19_5
              refine zx_tabIn (off := 112) C 131 dX12_told_19 (by rw [c19_5]; decide) (by rw [c19_5]; decide) (by rw [c19_5]; decide) (by decide) ?_
              refine zx_aload_n C dX12_told_131 3 rfl ?_
              refine zx_iload_n C dX12_told_132 4 rfl ?_
              refine zx_bipush (v := 93) C dX12_told_133 (by decide) ?_
              obtain ⟨k32, i33, hm⟩ := ckO_e hm
              obtain ⟨v34, ρ35, h36, hm⟩ := cll_e hm
              refine zx_callV (σ := ρ9) C [.int (p0), .int (93)] tC_11 k32 i33 Y_X12_node W_8_40 W_8_42 Wp_80 (c_X12_node h36) (by decide) (by decide) rfl (Nat.le_of_ble_eq_true rfl) dX12_told_135 rfl ?_
              refine zx_if_eq C 145 dX12_told_138 (by decide) (fun c37 => ?_) (fun c37 => ?_)
              · replace hm := ip_e hm c37
                refine zx_iconst (v := 0) C dX12_told_145 (by decide) ?_
                exact zx_lv [3, 4] [(0, .ref (a0)), (1, .int (p0))] rfl (j_X12_told_146 C htab hin    hm)
              · replace hm := in_e hm c37
                refine zx_iconst (v := 1) C dX12_told_141 (by decide) ?_
                refine zx_goto C 146 dX12_told_142 (by decide) ?_
                exact zx_lv [3, 4] [(0, .ref (a0)), (1, .int (p0))] rfl (j_X12_told_146 C htab hin    hm)
            · replace hm := in_e hm c19_5
              have g19_0 : (p1).toInt ≠ 0 := fun e9 => c19_0 (Int32.toInt_inj.mp (e9.trans (by decide)))
              have g19_1 : (p1).toInt ≠ 1 := fun e9 => c19_1 (Int32.toInt_inj.mp (e9.trans (by decide)))
              have g19_2 : (p1).toInt ≠ 2 := fun e9 => c19_2 (Int32.toInt_inj.mp (e9.trans (by decide)))
              have g19_3 : (p1).toInt ≠ 3 := fun e9 => c19_3 (Int32.toInt_inj.mp (e9.trans (by decide)))
              have g19_4 : (p1).toInt ≠ 4 := fun e9 => c19_4 (Int32.toInt_inj.mp (e9.trans (by decide)))
              have g19_5 : (p1).toInt ≠ 5 := fun e9 => c19_5 (Int32.toInt_inj.mp (e9.trans (by decide)))
              refine zx_tabOut C 216 dX12_told_19 (by omega) (by decide) ?_
              refine zx_iload_n C dX12_told_216 2 rfl ?_
              refine zx_iconst (v := 2) C dX12_told_217 (by decide) ?_
              refine zx_icmp_ne C 262 dX12_told_218 (by decide) (fun c55 => ?_) (fun c55 => ?_)
              · replace hm := in_e hm c55
                exact zx_lv [0] [(5, .int (0))] rfl (j_X12_told_262 C htab hin    hm)
              · replace hm := ip_e hm c55
                refine zx_iconst (v := 0) C dX12_told_221 (by decide) ?_
                refine zx_istore C [(7, .int (0)), (5, .int (0)), (4, .int (v8)), (3, .int (v3)), (0, .ref (a0)), (1, .int (p0)), (2, .int (p1))] dX12_told_222 (by decide) rfl ?_
                exact zx_lv [4, 5, 1, 0] [(0, .ref (a0)), (1, .int (p0)), (5, .int (0)), (7, .int (0))] rfl (l_X12_told_224 C htab hin  _ _ _ _ _ _ hm)
abbrev cX12_cut : ByteArray := prog_13_method_107_code
def yX12_cut : MethodName := ⟨"SyncTreeModel", "cut", "(I)I"⟩
theorem Y_X12_cut : tY yX12_cut cX12_cut 2 (some .int) 1 := ⟨W_9_71, W_1_14, ⟨by decide +kernel, by decide +kernel⟩, by decide +kernel⟩
theorem dX12_cut_0 : decode cX12_cut 0 = .ok (.aload_n 0, 1) := by decide +kernel
theorem dX12_cut_1 : decode cX12_cut 1 = .ok (.iconst 0, 1) := by decide +kernel
theorem dX12_cut_2 : decode cX12_cut 2 = .ok (.putfield 3, 3) := by decide +kernel
theorem dX12_cut_5 : decode cX12_cut 5 = .ok (.iload_n 1, 1) := by decide +kernel
theorem dX12_cut_6 : decode cX12_cut 6 = .ok (.iconst (-1), 1) := by decide +kernel
theorem dX12_cut_7 : decode cX12_cut 7 = .ok (.if_icmp .ge 6, 3) := by decide +kernel
theorem dX12_cut_10 : decode cX12_cut 10 = .ok (.bipush (-9), 2) := by decide +kernel
theorem dX12_cut_12 : decode cX12_cut 12 = .ok (.ireturn, 1) := by decide +kernel
theorem dX12_cut_13 : decode cX12_cut 13 = .ok (.aload_n 0, 1) := by decide +kernel
theorem dX12_cut_14 : decode cX12_cut 14 = .ok (.iload_n 1, 1) := by decide +kernel
theorem dX12_cut_15 : decode cX12_cut 15 = .ok (.putfield 44, 3) := by decide +kernel
theorem dX12_cut_18 : decode cX12_cut 18 = .ok (.iload_n 1, 1) := by decide +kernel
theorem dX12_cut_19 : decode cX12_cut 19 = .ok (.ireturn, 1) := by decide +kernel
set_option maxRecDepth 100000 in
set_option maxHeartbeats 1000000 in
theorem c_X12_cut {l : Launch} {D : va_G} {aC : Nat → ClassId} {b0 fu : Nat} {a0 : Nat} {p0 : Int32} {σ τ : tM} {v : Int32} (hm : m_X12_cut b0 fu a0 p0 σ = some (v, τ)) : tMt l D aC b0 yX12_cut (Cond.code yX12_cut cX12_cut 2 (some .int)) 0 0 [.ref (a0), .int (p0)] σ (.inl (some (.int v))) τ := by
  unfold m_X12_cut at hm
  obtain ⟨hg, hm⟩ := grw_e hm
  refine tMt_of (n := 0) rfl (Nat.le_of_ble_eq_true rfl) hg ?_
  intro p e s m below meth c C htab hin
  refine zx_lv [0, 1] [(0, .ref (a0)), (1, .int (p0))] rfl ?_
  refine zx_aload_n C dX12_cut_0 0 rfl ?_
  refine zx_iconst (v := 0) C dX12_cut_1 (by decide) ?_
  obtain ⟨k1, i2, hm⟩ := ckO_e hm
  refine zx_put (j := 0) (ρ := sI (σ) (a0) 0 (0)) C tC_11 k1 i2 ⟨by decide, Or.inl W_6_220⟩ rfl rfl rfl (sI_ok (fun _ => rfl)) dX12_cut_2 ?_
  refine zx_iload_n C dX12_cut_5 1 rfl ?_
  refine zx_iconst (v := (-1)) C dX12_cut_6 (by decide) ?_
  refine zx_icmp_ge C 13 dX12_cut_7 (by decide) (fun c3 => ?_) (fun c3 => ?_)
  · replace hm := ip_e hm c3
    refine zx_aload_n C dX12_cut_13 0 rfl ?_
    refine zx_iload_n C dX12_cut_14 1 rfl ?_
    refine zx_put (j := 19) (ρ := sI (sI (σ) (a0) 0 (0)) (a0) 19 (p0)) C tC_11 k1 i2 ⟨by decide, Or.inl W_6_238⟩ rfl rfl rfl (sI_ok (fun _ => rfl)) dX12_cut_15 ?_
    refine zx_iload_n C dX12_cut_18 1 rfl ?_
    obtain ⟨rfl, rfl⟩ := ret_e hm
    exact zx_iret C rfl rfl rfl dX12_cut_19
  · replace hm := in_e hm c3
    refine zx_bipush (v := (-9)) C dX12_cut_10 (by decide) ?_
    obtain ⟨rfl, rfl⟩ := ret_e hm
    exact zx_iret C rfl rfl rfl dX12_cut_12
abbrev cX12_crash : ByteArray := prog_13_method_108_code
def yX12_crash : MethodName := ⟨"SyncTreeModel", "crash", "()I"⟩
theorem Y_X12_crash : tY yX12_crash cX12_crash 1 (some .int) 0 := ⟨W_9_75, W_1_14, ⟨by decide +kernel, by decide +kernel⟩, by decide +kernel⟩
theorem dX12_crash_0 : decode cX12_crash 0 = .ok (.aload_n 0, 1) := by decide +kernel
theorem dX12_crash_1 : decode cX12_crash 1 = .ok (.iconst 0, 1) := by decide +kernel
theorem dX12_crash_2 : decode cX12_crash 2 = .ok (.putfield 3, 3) := by decide +kernel
theorem dX12_crash_5 : decode cX12_crash 5 = .ok (.aload_n 0, 1) := by decide +kernel
theorem dX12_crash_6 : decode cX12_crash 6 = .ok (.getfield 58, 3) := by decide +kernel
theorem dX12_crash_9 : decode cX12_crash 9 = .ok (.ifCond .ne 8, 3) := by decide +kernel
theorem dX12_crash_12 : decode cX12_crash 12 = .ok (.aload_n 0, 1) := by decide +kernel
theorem dX12_crash_13 : decode cX12_crash 13 = .ok (.invokevirtual 427, 3) := by decide +kernel
theorem dX12_crash_16 : decode cX12_crash 16 = .ok (.ireturn, 1) := by decide +kernel
theorem dX12_crash_17 : decode cX12_crash 17 = .ok (.aload_n 0, 1) := by decide +kernel
theorem dX12_crash_18 : decode cX12_crash 18 = .ok (.invokevirtual 47, 3) := by decide +kernel
theorem dX12_crash_21 : decode cX12_crash 21 = .ok (.aload_n 0, 1) := by decide +kernel
theorem dX12_crash_22 : decode cX12_crash 22 = .ok (.getfield 93, 3) := by decide +kernel
theorem dX12_crash_25 : decode cX12_crash 25 = .ok (.ireturn, 1) := by decide +kernel
set_option maxRecDepth 100000 in
set_option maxHeartbeats 1000000 in
theorem c_X12_crash {l : Launch} {D : va_G} {aC : Nat → ClassId} {b0 fu : Nat} {a0 : Nat} {σ τ : tM} {v : Int32} (hm : m_X12_crash b0 fu a0 σ = some (v, τ)) : tMt l D aC b0 yX12_crash (Cond.code yX12_crash cX12_crash 1 (some .int)) 1 21 [.ref (a0)] σ (.inl (some (.int v))) τ := by
  unfold m_X12_crash at hm
  obtain ⟨hg, hm⟩ := grw_e hm
  refine tMt_of (n := 0) rfl (Nat.le_of_ble_eq_true rfl) hg ?_
  intro p e s m below meth c C htab hin
  refine zx_lv [0] [(0, .ref (a0))] rfl ?_
  refine zx_aload_n C dX12_crash_0 0 rfl ?_
  refine zx_iconst (v := 0) C dX12_crash_1 (by decide) ?_
  obtain ⟨k1, i2, hm⟩ := ckO_e hm
  refine zx_put (j := 0) (ρ := sI (σ) (a0) 0 (0)) C tC_11 k1 i2 ⟨by decide, Or.inl W_6_220⟩ rfl rfl rfl (sI_ok (fun _ => rfl)) dX12_crash_2 ?_
  refine zx_aload_n C dX12_crash_5 0 rfl ?_
  refine zx_get (j := 18) C tC_11 k1 i2 ⟨by decide, Or.inl W_6_237⟩ dX12_crash_6 (.int (tI (sI (σ) (a0) 0 (0)) (a0) 18)) rfl ?_
  refine zx_if_ne C 17 dX12_crash_9 (by decide) (fun c3 => ?_) (fun c3 => ?_)
  · replace hm := in_e hm c3
    refine zx_aload_n C dX12_crash_17 0 rfl ?_
    obtain ⟨v4, ρ5, h6, hm⟩ := cll_e hm
    refine zx_callV (σ := sI (σ) (a0) 0 (0)) C [] tC_11 k1 i2 Y_X12_powerOff W_7_220 W_7_222 Wp_66 (c_X12_powerOff h6) (by decide) (by decide) rfl (Nat.le_of_ble_eq_true rfl) dX12_crash_18 rfl ?_
    refine zx_aload_n C dX12_crash_21 0 rfl ?_
    obtain ⟨k7, i8, hm⟩ := ckO_e hm
    refine zx_get (j := 16) C tC_11 k7 i8 ⟨by decide, Or.inl W_6_235⟩ dX12_crash_22 (.int (tI (ρ5) (a0) 16)) rfl ?_
    obtain ⟨rfl, rfl⟩ := ret_e hm
    exact zx_iret C rfl rfl rfl dX12_crash_25
  · replace hm := ip_e hm c3
    refine zx_aload_n C dX12_crash_12 0 rfl ?_
    obtain ⟨v9, ρ10, h11, hm⟩ := cll_e hm
    refine zx_callV (σ := sI (σ) (a0) 0 (0)) C [] tC_11 k1 i2 Y_X12_off W_8_135 W_8_137 Wp_103 (c_X12_off h11) (by decide) (by decide) rfl (Nat.le_of_ble_eq_true rfl) dX12_crash_13 rfl ?_
    obtain ⟨rfl, rfl⟩ := ret_e hm
    exact zx_iret C rfl rfl rfl dX12_crash_16
abbrev cX12_versions : ByteArray := prog_13_method_109_code
def yX12_versions : MethodName := ⟨"SyncTreeModel", "versions", "(I)I"⟩
theorem Y_X12_versions : tY yX12_versions cX12_versions 4 (some .int) 1 := ⟨W_9_79, W_1_14, ⟨by decide +kernel, by decide +kernel⟩, by decide +kernel⟩
theorem dX12_versions_0 : decode cX12_versions 0 = .ok (.aload_n 0, 1) := by decide +kernel
theorem dX12_versions_1 : decode cX12_versions 1 = .ok (.iconst 0, 1) := by decide +kernel
theorem dX12_versions_2 : decode cX12_versions 2 = .ok (.putfield 3, 3) := by decide +kernel
theorem dX12_versions_5 : decode cX12_versions 5 = .ok (.iload_n 1, 1) := by decide +kernel
theorem dX12_versions_6 : decode cX12_versions 6 = .ok (.ifCond .lt 11, 3) := by decide +kernel
theorem dX12_versions_9 : decode cX12_versions 9 = .ok (.iload_n 1, 1) := by decide +kernel
theorem dX12_versions_10 : decode cX12_versions 10 = .ok (.aload_n 0, 1) := by decide +kernel
theorem dX12_versions_11 : decode cX12_versions 11 = .ok (.invokevirtual 164, 3) := by decide +kernel
theorem dX12_versions_14 : decode cX12_versions 14 = .ok (.if_icmp .lt 6, 3) := by decide +kernel
theorem dX12_versions_17 : decode cX12_versions 17 = .ok (.bipush (-9), 2) := by decide +kernel
theorem dX12_versions_19 : decode cX12_versions 19 = .ok (.ireturn, 1) := by decide +kernel
theorem dX12_versions_20 : decode cX12_versions 20 = .ok (.iconst 0, 1) := by decide +kernel
theorem dX12_versions_21 : decode cX12_versions 21 = .ok (.istore_n 2, 1) := by decide +kernel
theorem dX12_versions_22 : decode cX12_versions 22 = .ok (.iconst 0, 1) := by decide +kernel
theorem dX12_versions_23 : decode cX12_versions 23 = .ok (.istore_n 3, 1) := by decide +kernel
theorem dX12_versions_24 : decode cX12_versions 24 = .ok (.iload_n 3, 1) := by decide +kernel
theorem dX12_versions_25 : decode cX12_versions 25 = .ok (.aload_n 0, 1) := by decide +kernel
theorem dX12_versions_26 : decode cX12_versions 26 = .ok (.getfield 93, 3) := by decide +kernel
theorem dX12_versions_29 : decode cX12_versions 29 = .ok (.if_icmp .ge 31, 3) := by decide +kernel
theorem dX12_versions_32 : decode cX12_versions 32 = .ok (.aload_n 0, 1) := by decide +kernel
theorem dX12_versions_33 : decode cX12_versions 33 = .ok (.getfield 65, 3) := by decide +kernel
theorem dX12_versions_36 : decode cX12_versions 36 = .ok (.aload_n 0, 1) := by decide +kernel
theorem dX12_versions_37 : decode cX12_versions 37 = .ok (.getfield 87, 3) := by decide +kernel
theorem dX12_versions_40 : decode cX12_versions 40 = .ok (.iload_n 3, 1) := by decide +kernel
theorem dX12_versions_41 : decode cX12_versions 41 = .ok (.iadd, 1) := by decide +kernel
theorem dX12_versions_42 : decode cX12_versions 42 = .ok (.sipush 256, 3) := by decide +kernel
theorem dX12_versions_45 : decode cX12_versions 45 = .ok (.irem, 1) := by decide +kernel
theorem dX12_versions_46 : decode cX12_versions 46 = .ok (.iaload, 1) := by decide +kernel
theorem dX12_versions_47 : decode cX12_versions 47 = .ok (.iload_n 1, 1) := by decide +kernel
theorem dX12_versions_48 : decode cX12_versions 48 = .ok (.if_icmp .ne 6, 3) := by decide +kernel
theorem dX12_versions_51 : decode cX12_versions 51 = .ok (.iinc 2 1, 3) := by decide +kernel
theorem dX12_versions_54 : decode cX12_versions 54 = .ok (.iinc 3 1, 3) := by decide +kernel
theorem dX12_versions_57 : decode cX12_versions 57 = .ok (.goto (-33), 3) := by decide +kernel
theorem dX12_versions_60 : decode cX12_versions 60 = .ok (.iload_n 2, 1) := by decide +kernel
theorem dX12_versions_61 : decode cX12_versions 61 = .ok (.ireturn, 1) := by decide +kernel
set_option maxRecDepth 100000 in
set_option maxHeartbeats 1000000 in
theorem j_X12_versions_17 {p : Program} {l : Launch} {e : Env} {s : State} {m : MethodId} {args : Array Value} {below : List Frame} {meth : Method} {c : Code} {D : va_G} {aC : Nat → ClassId} {b0 fu : Nat} {σ0 τ : tM} {v : Int32}  (C : tCx p l s m args meth c yX12_versions.cls cX12_versions 4 (some .int) D aC b0 σ0) (htab : ∀ x ∈ c.exceptionTable.toList, False) (hin : meth.name = yX12_versions.name)   {σ : tM} (hm : J_X12_versions_17 b0 fu   σ = some (v, τ)) : tX p l e s m args below meth c 4 1 20 D aC b0 σ0 (.inl (some (.int v))) τ 17 [] [] σ := by
  unfold J_X12_versions_17 at hm
  refine zx_bipush (v := (-9)) C dX12_versions_17 (by decide) ?_
  obtain ⟨rfl, rfl⟩ := ret_e hm
  exact zx_iret C rfl rfl rfl dX12_versions_19
set_option maxRecDepth 100000 in
set_option maxHeartbeats 1000000 in
theorem j_X12_versions_54 {p : Program} {l : Launch} {e : Env} {s : State} {m : MethodId} {args : Array Value} {below : List Frame} {meth : Method} {c : Code} {D : va_G} {aC : Nat → ClassId} {b0 fu : Nat} {σ0 τ : tM} {v : Int32} {rc24 : Nat → Int32 → Int32 → Int32 → tM → Option ((Int32) × tM)} (C : tCx p l s m args meth c yX12_versions.cls cX12_versions 4 (some .int) D aC b0 σ0) (htab : ∀ x ∈ c.exceptionTable.toList, False) (hin : meth.name = yX12_versions.name) (hrc24 : ∀ (x0 : Nat) (x1 : Int32) (x2 : Int32) (x3 : Int32) (ρ : tM), rc24 x0 x1 x2 x3 ρ = some (v, τ) → tX p l e s m args below meth c 4 1 20 D aC b0 σ0 (.inl (some (.int v))) τ 24 [(0, .ref (x0)), (1, .int (x1)), (2, .int (x2)), (3, .int (x3))] [] ρ) {x0 : Nat} {x1 : Int32} {x2 : Int32} {x3 : Int32} {σ : tM} (hm : J_X12_versions_54 b0 fu rc24 x0 x1 x2 x3 σ = some (v, τ)) : tX p l e s m args below meth c 4 1 20 D aC b0 σ0 (.inl (some (.int v))) τ 54 [(0, .ref (x0)), (1, .int (x1)), (2, .int (x2)), (3, .int (x3))] [] σ := by
  unfold J_X12_versions_54 at hm
  obtain ⟨y18, hy18⟩ : ∃ z : Int32, z = (x3) + Int32.ofInt 1 := ⟨_, rfl⟩
  replace hm := ltb_e hm hy18
  refine zx_iinc C [(3, .int (y18)), (0, .ref (x0)), (1, .int (x1)), (2, .int (x2))] dX12_versions_54 3 rfl hy18.symm (by decide) rfl ?_
  refine zx_goto C 24 dX12_versions_57 (by decide) ?_
  exact zx_lv [1, 2, 3, 0] [(0, .ref (x0)), (1, .int (x1)), (2, .int (x2)), (3, .int (y18))] rfl (hrc24 _ _ _ _ _ hm)
set_option maxRecDepth 100000 in
set_option maxHeartbeats 1000000 in
theorem l_X12_versions_24 {p : Program} {l : Launch} {e : Env} {s : State} {m : MethodId} {args : Array Value} {below : List Frame} {meth : Method} {c : Code} {D : va_G} {aC : Nat → ClassId} {b0 fu : Nat} {σ0 τ : tM} {v : Int32}  (C : tCx p l s m args meth c yX12_versions.cls cX12_versions 4 (some .int) D aC b0 σ0) (htab : ∀ x ∈ c.exceptionTable.toList, False) (hin : meth.name = yX12_versions.name)  : ∀ (n : Nat) (x0 : Nat) (x1 : Int32) (x2 : Int32) (x3 : Int32) (σ : tM), L_X12_versions_24 b0 fu  n x0 x1 x2 x3 σ = some (v, τ) → tX p l e s m args below meth c 4 1 20 D aC b0 σ0 (.inl (some (.int v))) τ 24 [(0, .ref (x0)), (1, .int (x1)), (2, .int (x2)), (3, .int (x3))] [] σ := by
  intro n
  induction n with
  | zero => intro x0 x1 x2 x3 σ hm; unfold L_X12_versions_24 at hm; cases hm
  | succ n ih =>
    intro x0 x1 x2 x3 σ hm
    unfold L_X12_versions_24 at hm
    obtain ⟨rc24, hrc⟩ : ∃ z, z = L_X12_versions_24 b0 fu  n := ⟨_, rfl⟩
    replace hm := ltb_e hm hrc
    rw [← hrc] at ih
    have hrc24 := ih
    clear ih hrc
    refine zx_iload_n C dX12_versions_24 3 rfl ?_
    refine zx_aload_n C dX12_versions_25 0 rfl ?_
    obtain ⟨k8, i9, hm⟩ := ckO_e hm
    refine zx_get (j := 16) C tC_11 k8 i9 ⟨by decide, Or.inl W_6_235⟩ dX12_versions_26 (.int (tI (σ) (x0) 16)) rfl ?_
    refine zx_icmp_ge C 60 dX12_versions_29 (by decide) (fun c10 => ?_) (fun c10 => ?_)
    · replace hm := ip_e hm c10
      refine zx_iload_n C dX12_versions_60 2 rfl ?_
      obtain ⟨rfl, rfl⟩ := ret_e hm
      exact zx_iret C rfl rfl rfl dX12_versions_61
    · replace hm := in_e hm c10
      refine zx_aload_n C dX12_versions_32 0 rfl ?_
      obtain ⟨a11, h12, hm⟩ := osm_e hm
      refine zx_get (j := 11) C tC_11 k8 i9 ⟨by decide, Or.inl W_6_230⟩ dX12_versions_33 (.ref a11) (rf_s h12) ?_
      refine zx_aload_n C dX12_versions_36 0 rfl ?_
      refine zx_get (j := 15) C tC_11 k8 i9 ⟨by decide, Or.inl W_6_234⟩ dX12_versions_37 (.int (tI (σ) (x0) 15)) rfl ?_
      refine zx_iload_n C dX12_versions_40 3 rfl ?_
      refine zx_iadd C dX12_versions_41 ?_
      refine zx_sipush (v := 256) C dX12_versions_42 (by decide) ?_
      refine zx_irem C dX12_versions_45 (by decide) ?_
      obtain ⟨n15, k13, i14, hm⟩ := ckR_e hm
      obtain ⟨h16, hm⟩ := ckI_e hm
      refine zx_iald C k13 i14 h16 dX12_versions_46 ?_
      refine zx_iload_n C dX12_versions_47 1 rfl ?_
      refine zx_icmp_ne C 54 dX12_versions_48 (by decide) (fun c17 => ?_) (fun c17 => ?_)
      · replace hm := in_e hm c17
        exact zx_lv [0, 1, 2, 3] [(0, .ref (x0)), (1, .int (x1)), (2, .int (x2)), (3, .int (x3))] rfl (j_X12_versions_54 C htab hin hrc24   hm)
      · replace hm := ip_e hm c17
        obtain ⟨y19, hy19⟩ : ∃ z : Int32, z = (x2) + Int32.ofInt 1 := ⟨_, rfl⟩
        replace hm := ltb_e hm hy19
        refine zx_iinc C [(2, .int (y19)), (0, .ref (x0)), (1, .int (x1)), (3, .int (x3))] dX12_versions_51 2 rfl hy19.symm (by decide) rfl ?_
        exact zx_lv [1, 2, 0, 3] [(0, .ref (x0)), (1, .int (x1)), (2, .int (y19)), (3, .int (x3))] rfl (j_X12_versions_54 C htab hin hrc24   hm)
set_option maxRecDepth 100000 in
set_option maxHeartbeats 1000000 in
theorem c_X12_versions {l : Launch} {D : va_G} {aC : Nat → ClassId} {b0 fu : Nat} {a0 : Nat} {p0 : Int32} {σ τ : tM} {v : Int32} (hm : m_X12_versions b0 fu a0 p0 σ = some (v, τ)) : tMt l D aC b0 yX12_versions (Cond.code yX12_versions cX12_versions 4 (some .int)) 1 20 [.ref (a0), .int (p0)] σ (.inl (some (.int v))) τ := by
  unfold m_X12_versions at hm
  obtain ⟨hg, hm⟩ := grw_e hm
  refine tMt_of (n := 0) rfl (Nat.le_of_ble_eq_true rfl) hg ?_
  intro p e s m below meth c C htab hin
  refine zx_lv [0, 1] [(0, .ref (a0)), (1, .int (p0))] rfl ?_
  refine zx_aload_n C dX12_versions_0 0 rfl ?_
  refine zx_iconst (v := 0) C dX12_versions_1 (by decide) ?_
  obtain ⟨k1, i2, hm⟩ := ckO_e hm
  refine zx_put (j := 0) (ρ := sI (σ) (a0) 0 (0)) C tC_11 k1 i2 ⟨by decide, Or.inl W_6_220⟩ rfl rfl rfl (sI_ok (fun _ => rfl)) dX12_versions_2 ?_
  refine zx_iload_n C dX12_versions_5 1 rfl ?_
  refine zx_if_lt C 17 dX12_versions_6 (by decide) (fun c3 => ?_) (fun c3 => ?_)
  · replace hm := ip_e hm c3
    exact zx_lv [] [] rfl (j_X12_versions_17 C htab hin    hm)
  · replace hm := in_e hm c3
    refine zx_iload_n C dX12_versions_9 1 rfl ?_
    refine zx_aload_n C dX12_versions_10 0 rfl ?_
    obtain ⟨v4, ρ5, h6, hm⟩ := cll_e hm
    refine zx_callV (σ := sI (σ) (a0) 0 (0)) C [] tC_11 k1 i2 Y_X12_blocks W_6_216 W_6_218 Wp_55 (c_X12_blocks h6) (by decide) (by decide) rfl (Nat.le_of_ble_eq_true rfl) dX12_versions_11 rfl ?_
    refine zx_icmp_lt C 20 dX12_versions_14 (by decide) (fun c7 => ?_) (fun c7 => ?_)
    · replace hm := ip_e hm c7
      refine zx_iconst (v := 0) C dX12_versions_20 (by decide) ?_
      refine zx_istore_n C [(2, .int (0)), (0, .ref (a0)), (1, .int (p0))] dX12_versions_21 rfl (by decide) rfl ?_
      refine zx_iconst (v := 0) C dX12_versions_22 (by decide) ?_
      refine zx_istore_n C [(3, .int (0)), (2, .int (0)), (0, .ref (a0)), (1, .int (p0))] dX12_versions_23 rfl (by decide) rfl ?_
      exact zx_lv [2, 3, 1, 0] [(0, .ref (a0)), (1, .int (p0)), (2, .int (0)), (3, .int (0))] rfl (l_X12_versions_24 C htab hin  _ _ _ _ _ _ hm)
    · replace hm := in_e hm c7
      exact zx_lv [] [] rfl (j_X12_versions_17 C htab hin    hm)
abbrev cX12_choose : ByteArray := prog_13_method_110_code
def yX12_choose : MethodName := ⟨"SyncTreeModel", "choose", "(II)I"⟩
theorem Y_X12_choose : tY yX12_choose cX12_choose 4 (some .int) 2 := ⟨W_9_83, W_1_14, ⟨by decide +kernel, by decide +kernel⟩, by decide +kernel⟩
theorem dX12_choose_0 : decode cX12_choose 0 = .ok (.aload_n 0, 1) := by decide +kernel
theorem dX12_choose_1 : decode cX12_choose 1 = .ok (.iconst 0, 1) := by decide +kernel
theorem dX12_choose_2 : decode cX12_choose 2 = .ok (.putfield 3, 3) := by decide +kernel
theorem dX12_choose_5 : decode cX12_choose 5 = .ok (.aload_n 0, 1) := by decide +kernel
theorem dX12_choose_6 : decode cX12_choose 6 = .ok (.getfield 58, 3) := by decide +kernel
theorem dX12_choose_9 : decode cX12_choose 9 = .ok (.ifCond .ne 15, 3) := by decide +kernel
theorem dX12_choose_12 : decode cX12_choose 12 = .ok (.iload_n 1, 1) := by decide +kernel
theorem dX12_choose_13 : decode cX12_choose 13 = .ok (.ifCond .lt 11, 3) := by decide +kernel
theorem dX12_choose_16 : decode cX12_choose 16 = .ok (.iload_n 1, 1) := by decide +kernel
theorem dX12_choose_17 : decode cX12_choose 17 = .ok (.aload_n 0, 1) := by decide +kernel
theorem dX12_choose_18 : decode cX12_choose 18 = .ok (.invokevirtual 164, 3) := by decide +kernel
theorem dX12_choose_21 : decode cX12_choose 21 = .ok (.if_icmp .lt 6, 3) := by decide +kernel
theorem dX12_choose_24 : decode cX12_choose 24 = .ok (.bipush (-9), 2) := by decide +kernel
theorem dX12_choose_26 : decode cX12_choose 26 = .ok (.ireturn, 1) := by decide +kernel
theorem dX12_choose_27 : decode cX12_choose 27 = .ok (.aload_n 0, 1) := by decide +kernel
theorem dX12_choose_28 : decode cX12_choose 28 = .ok (.iload_n 1, 1) := by decide +kernel
theorem dX12_choose_29 : decode cX12_choose 29 = .ok (.invokevirtual 468, 3) := by decide +kernel
theorem dX12_choose_32 : decode cX12_choose 32 = .ok (.istore_n 3, 1) := by decide +kernel
theorem dX12_choose_33 : decode cX12_choose 33 = .ok (.iload_n 2, 1) := by decide +kernel
theorem dX12_choose_34 : decode cX12_choose 34 = .ok (.ifCond .lt 8, 3) := by decide +kernel
theorem dX12_choose_37 : decode cX12_choose 37 = .ok (.iload_n 2, 1) := by decide +kernel
theorem dX12_choose_38 : decode cX12_choose 38 = .ok (.iload_n 3, 1) := by decide +kernel
theorem dX12_choose_39 : decode cX12_choose 39 = .ok (.if_icmp .le 6, 3) := by decide +kernel
theorem dX12_choose_42 : decode cX12_choose 42 = .ok (.bipush (-9), 2) := by decide +kernel
theorem dX12_choose_44 : decode cX12_choose 44 = .ok (.ireturn, 1) := by decide +kernel
theorem dX12_choose_45 : decode cX12_choose 45 = .ok (.aload_n 0, 1) := by decide +kernel
theorem dX12_choose_46 : decode cX12_choose 46 = .ok (.getfield 62, 3) := by decide +kernel
theorem dX12_choose_49 : decode cX12_choose 49 = .ok (.iload_n 1, 1) := by decide +kernel
theorem dX12_choose_50 : decode cX12_choose 50 = .ok (.iload_n 2, 1) := by decide +kernel
theorem dX12_choose_51 : decode cX12_choose 51 = .ok (.iastore, 1) := by decide +kernel
theorem dX12_choose_52 : decode cX12_choose 52 = .ok (.iload_n 3, 1) := by decide +kernel
theorem dX12_choose_53 : decode cX12_choose 53 = .ok (.ireturn, 1) := by decide +kernel
set_option maxRecDepth 100000 in
set_option maxHeartbeats 1000000 in
theorem j_X12_choose_24 {p : Program} {l : Launch} {e : Env} {s : State} {m : MethodId} {args : Array Value} {below : List Frame} {meth : Method} {c : Code} {D : va_G} {aC : Nat → ClassId} {b0 fu : Nat} {σ0 τ : tM} {v : Int32}  (C : tCx p l s m args meth c yX12_choose.cls cX12_choose 4 (some .int) D aC b0 σ0) (htab : ∀ x ∈ c.exceptionTable.toList, False) (hin : meth.name = yX12_choose.name)   {σ : tM} (hm : J_X12_choose_24 b0 fu   σ = some (v, τ)) : tX p l e s m args below meth c 4 2 43 D aC b0 σ0 (.inl (some (.int v))) τ 24 [] [] σ := by
  unfold J_X12_choose_24 at hm
  refine zx_bipush (v := (-9)) C dX12_choose_24 (by decide) ?_
  obtain ⟨rfl, rfl⟩ := ret_e hm
  exact zx_iret C rfl rfl rfl dX12_choose_26
set_option maxRecDepth 100000 in
set_option maxHeartbeats 1000000 in
theorem j_X12_choose_42 {p : Program} {l : Launch} {e : Env} {s : State} {m : MethodId} {args : Array Value} {below : List Frame} {meth : Method} {c : Code} {D : va_G} {aC : Nat → ClassId} {b0 fu : Nat} {σ0 τ : tM} {v : Int32}  (C : tCx p l s m args meth c yX12_choose.cls cX12_choose 4 (some .int) D aC b0 σ0) (htab : ∀ x ∈ c.exceptionTable.toList, False) (hin : meth.name = yX12_choose.name)   {σ : tM} (hm : J_X12_choose_42 b0 fu   σ = some (v, τ)) : tX p l e s m args below meth c 4 2 43 D aC b0 σ0 (.inl (some (.int v))) τ 42 [] [] σ := by
  unfold J_X12_choose_42 at hm
  refine zx_bipush (v := (-9)) C dX12_choose_42 (by decide) ?_
  obtain ⟨rfl, rfl⟩ := ret_e hm
  exact zx_iret C rfl rfl rfl dX12_choose_44
set_option maxRecDepth 100000 in
set_option maxHeartbeats 1000000 in
theorem c_X12_choose {l : Launch} {D : va_G} {aC : Nat → ClassId} {b0 fu : Nat} {a0 : Nat} {p0 : Int32} {p1 : Int32} {σ τ : tM} {v : Int32} (hm : m_X12_choose b0 fu a0 p0 p1 σ = some (v, τ)) : tMt l D aC b0 yX12_choose (Cond.code yX12_choose cX12_choose 4 (some .int)) 2 43 [.ref (a0), .int (p0), .int (p1)] σ (.inl (some (.int v))) τ := by
  unfold m_X12_choose at hm
  obtain ⟨hg, hm⟩ := grw_e hm
  refine tMt_of (n := 0) rfl (Nat.le_of_ble_eq_true rfl) hg ?_
  intro p e s m below meth c C htab hin
  refine zx_lv [0, 1, 2] [(0, .ref (a0)), (1, .int (p0)), (2, .int (p1))] rfl ?_
  refine zx_aload_n C dX12_choose_0 0 rfl ?_
  refine zx_iconst (v := 0) C dX12_choose_1 (by decide) ?_
  obtain ⟨k1, i2, hm⟩ := ckO_e hm
  refine zx_put (j := 0) (ρ := sI (σ) (a0) 0 (0)) C tC_11 k1 i2 ⟨by decide, Or.inl W_6_220⟩ rfl rfl rfl (sI_ok (fun _ => rfl)) dX12_choose_2 ?_
  refine zx_aload_n C dX12_choose_5 0 rfl ?_
  refine zx_get (j := 18) C tC_11 k1 i2 ⟨by decide, Or.inl W_6_237⟩ dX12_choose_6 (.int (tI (sI (σ) (a0) 0 (0)) (a0) 18)) rfl ?_
  refine zx_if_ne C 24 dX12_choose_9 (by decide) (fun c3 => ?_) (fun c3 => ?_)
  · replace hm := in_e hm c3
    exact zx_lv [] [] rfl (j_X12_choose_24 C htab hin    hm)
  · replace hm := ip_e hm c3
    refine zx_iload_n C dX12_choose_12 1 rfl ?_
    refine zx_if_lt C 24 dX12_choose_13 (by decide) (fun c4 => ?_) (fun c4 => ?_)
    · replace hm := ip_e hm c4
      exact zx_lv [] [] rfl (j_X12_choose_24 C htab hin    hm)
    · replace hm := in_e hm c4
      refine zx_iload_n C dX12_choose_16 1 rfl ?_
      refine zx_aload_n C dX12_choose_17 0 rfl ?_
      obtain ⟨v5, ρ6, h7, hm⟩ := cll_e hm
      refine zx_callV (σ := sI (σ) (a0) 0 (0)) C [] tC_11 k1 i2 Y_X12_blocks W_6_216 W_6_218 Wp_55 (c_X12_blocks h7) (by decide) (by decide) rfl (Nat.le_of_ble_eq_true rfl) dX12_choose_18 rfl ?_
      refine zx_icmp_lt C 27 dX12_choose_21 (by decide) (fun c8 => ?_) (fun c8 => ?_)
      · replace hm := ip_e hm c8
        refine zx_aload_n C dX12_choose_27 0 rfl ?_
        refine zx_iload_n C dX12_choose_28 1 rfl ?_
        obtain ⟨k9, i10, hm⟩ := ckO_e hm
        obtain ⟨v11, ρ12, h13, hm⟩ := cll_e hm
        refine zx_callV (σ := ρ6) C [.int (p0)] tC_11 k9 i10 Y_X12_versions W_9_84 W_9_77 W_9_78 (c_X12_versions h13) (by decide) (by decide) rfl (Nat.le_of_ble_eq_true rfl) dX12_choose_29 rfl ?_
        refine zx_istore_n C [(3, .int (v11)), (0, .ref (a0)), (1, .int (p0)), (2, .int (p1))] dX12_choose_32 rfl (by decide) rfl ?_
        refine zx_iload_n C dX12_choose_33 3 rfl ?_
        refine zx_if_lt C 42 dX12_choose_34 (by decide) (fun c14 => ?_) (fun c14 => ?_)
        · replace hm := ip_e hm c14
          exact zx_lv [] [] rfl (j_X12_choose_42 C htab hin    hm)
        · replace hm := in_e hm c14
          refine zx_iload_n C dX12_choose_37 3 rfl ?_
          refine zx_iload_n C dX12_choose_38 0 rfl ?_
          refine zx_icmp_le C 45 dX12_choose_39 (by decide) (fun c15 => ?_) (fun c15 => ?_)
          · replace hm := ip_e hm c15
            refine zx_aload_n C dX12_choose_45 1 rfl ?_
            obtain ⟨k16, i17, hm⟩ := ckO_e hm
            obtain ⟨a18, h19, hm⟩ := osm_e hm
            refine zx_get (j := 17) C tC_11 k16 i17 ⟨by decide, Or.inl W_6_236⟩ dX12_choose_46 (.ref a18) (rf_s h19) ?_
            refine zx_iload_n C dX12_choose_49 2 rfl ?_
            refine zx_iload_n C dX12_choose_50 3 rfl ?_
            obtain ⟨n22, k20, i21, hm⟩ := ckR_e hm
            obtain ⟨h23, hm⟩ := ckI_e hm
            refine zx_iast C k20 i21 h23 dX12_choose_51 ?_
            refine zx_iload_n C dX12_choose_52 0 rfl ?_
            obtain ⟨rfl, rfl⟩ := ret_e hm
            exact zx_iret C rfl rfl rfl dX12_choose_53
          · replace hm := in_e hm c15
            exact zx_lv [] [] rfl (j_X12_choose_42 C htab hin    hm)
      · replace hm := in_e hm c8
        exact zx_lv [] [] rfl (j_X12_choose_24 C htab hin    hm)
