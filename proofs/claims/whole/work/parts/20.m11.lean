abbrev cX10_finishMove : ByteArray := prog_1_method_17_code
def yX10_finishMove : MethodName := ⟨"SyncTree", "finishMove", "(IIII)V"⟩
theorem Y_X10_finishMove : tY yX10_finishMove cX10_finishMove 5 none 4 := ⟨W_5_118, W_1_1, ⟨by decide +kernel, by decide +kernel⟩, by decide +kernel⟩
theorem dX10_finishMove_0 : decode cX10_finishMove 0 = .ok (.aload_n 0, 1) := by decide +kernel
theorem dX10_finishMove_1 : decode cX10_finishMove 1 = .ok (.getfield 28, 3) := by decide +kernel
theorem dX10_finishMove_4 : decode cX10_finishMove 4 = .ok (.iload_n 1, 1) := by decide +kernel
theorem dX10_finishMove_5 : decode cX10_finishMove 5 = .ok (.invokevirtual 168, 3) := by decide +kernel
theorem dX10_finishMove_8 : decode cX10_finishMove 8 = .ok (.iconst 2, 1) := by decide +kernel
theorem dX10_finishMove_9 : decode cX10_finishMove 9 = .ok (.if_icmp .ne 12, 3) := by decide +kernel
theorem dX10_finishMove_12 : decode cX10_finishMove 12 = .ok (.aload_n 0, 1) := by decide +kernel
theorem dX10_finishMove_13 : decode cX10_finishMove 13 = .ok (.getfield 28, 3) := by decide +kernel
theorem dX10_finishMove_16 : decode cX10_finishMove 16 = .ok (.iload_n 1, 1) := by decide +kernel
theorem dX10_finishMove_17 : decode cX10_finishMove 17 = .ok (.iload_n 2, 1) := by decide +kernel
theorem dX10_finishMove_18 : decode cX10_finishMove 18 = .ok (.invokevirtual 215, 3) := by decide +kernel
theorem dX10_finishMove_21 : decode cX10_finishMove 21 = .ok (.aload_n 0, 1) := by decide +kernel
theorem dX10_finishMove_22 : decode cX10_finishMove 22 = .ok (.getfield 28, 3) := by decide +kernel
theorem dX10_finishMove_25 : decode cX10_finishMove 25 = .ok (.iload_n 3, 1) := by decide +kernel
theorem dX10_finishMove_26 : decode cX10_finishMove 26 = .ok (.iload 4, 2) := by decide +kernel
theorem dX10_finishMove_28 : decode cX10_finishMove 28 = .ok (.invokevirtual 187, 3) := by decide +kernel
theorem dX10_finishMove_31 : decode cX10_finishMove 31 = .ok (.return_, 1) := by decide +kernel
def J_X10_finishMove_21 (b0 fu : Nat)  (x0 : Nat) (x3 : Int32) (x4 : Int32) (σ : tM) : Option ((Unit) × tM) := ckO b0 (σ) (x0) 10 (osm (tA (σ) (x0) 2) (fun a13 => ckO b0 (σ) (a13) 8 (cll (m_X8_removeEntry b0 fu (a13) (x3) (x4) (σ)) (fun v17 ρ18 => some ((), ρ18)))))
def m_X10_finishMove (b0 fu : Nat) (a0 : Nat) (p0 : Int32) (p1 : Int32) (p2 : Int32) (p3 : Int32) (σ : tM) : Option ((Unit) × tM) := grw σ (ckO b0 (σ) (a0) 10 (osm (tA (σ) (a0) 2) (fun a3 => ckO b0 (σ) (a3) 8 (cll (m_X8_kind b0 fu (a3) (p0) (σ)) (fun v7 ρ8 => if (v7) = (2) then ckO b0 (ρ8) (a0) 10 (osm (tA (ρ8) (a0) 2) (fun a22 => ckO b0 (ρ8) (a22) 8 (cll (m_X8_setParent b0 fu (a22) (p0) (p1) (ρ8)) (fun v26 ρ27 => J_X10_finishMove_21 b0 fu   (a0) (p2) (p3) (ρ27))))) else J_X10_finishMove_21 b0 fu   (a0) (p2) (p3) (ρ8))))))
set_option maxRecDepth 100000 in
set_option maxHeartbeats 1000000 in
theorem j_X10_finishMove_21 {p : Program} {l : Launch} {e : Env} {s : State} {m : MethodId} {args : Array Value} {below : List Frame} {meth : Method} {c : Code} {D : va_G} {aC : Nat → ClassId} {b0 fu : Nat} {σ0 τ : tM} {v : Unit}  (C : tCx p s m args meth c yX10_finishMove.cls cX10_finishMove 5 none D aC b0 σ0) (htab : ∀ x ∈ c.exceptionTable.toList, False) (hin : meth.name = yX10_finishMove.name)  {x0 : Nat} {x3 : Int32} {x4 : Int32} {σ : tM} (hm : J_X10_finishMove_21 b0 fu  x0 x3 x4 σ = some (v, τ)) : tX p l e s m args below meth c 5 5 120 D aC b0 σ0 (.inl none) τ 21 [(0, .ref (x0)), (3, .int (x3)), (4, .int (x4))] [] σ := by
  unfold J_X10_finishMove_21 at hm
  refine zx_aload_n C dX10_finishMove_21 0 rfl ?_
  obtain ⟨k11, i12, hm⟩ := ckO_e hm
  obtain ⟨a13, h14, hm⟩ := osm_e hm
  refine zx_get (j := 2) C tC_10 k11 i12 ⟨by decide, Or.inl W_2_215⟩ dX10_finishMove_22 (.ref a13) (rf_s h14) ?_
  refine zx_iload_n C dX10_finishMove_25 1 rfl ?_
  refine zx_iload C dX10_finishMove_26 2 rfl ?_
  obtain ⟨k15, i16, hm⟩ := ckO_e hm
  obtain ⟨v17, ρ18, h19, hm⟩ := cll_e hm
  refine zx_callV (σ := σ) C [.int (x3), .int (x4)] tC_8 k15 i16 Y_X8_removeEntry W_5_33 W_5_34 W_5_35 (c_X8_removeEntry h19) (by decide) (by decide) rfl (Nat.le_of_ble_eq_true rfl) dX10_finishMove_28 rfl ?_
  obtain ⟨rfl, rfl⟩ := ret_e hm
  exact zx_vret C rfl rfl rfl dX10_finishMove_31
set_option maxRecDepth 100000 in
set_option maxHeartbeats 1000000 in
theorem c_X10_finishMove {l : Launch} {D : va_G} {aC : Nat → ClassId} {b0 fu : Nat} {a0 : Nat} {p0 : Int32} {p1 : Int32} {p2 : Int32} {p3 : Int32} {σ τ : tM} {v : Unit} (hm : m_X10_finishMove b0 fu a0 p0 p1 p2 p3 σ = some (v, τ)) : tMt l D aC b0 yX10_finishMove (Cond.code yX10_finishMove cX10_finishMove 5 none) 5 120 [.ref (a0), .int (p0), .int (p1), .int (p2), .int (p3)] σ (.inl none) τ := by
  unfold m_X10_finishMove at hm
  obtain ⟨hg, hm⟩ := grw_e hm
  refine tMt_of (n := 0) rfl (Nat.le_of_ble_eq_true rfl) hg ?_
  intro p e s m below meth c C htab hin
  refine zx_lv [0, 1, 2, 3, 4] [(0, .ref (a0)), (1, .int (p0)), (2, .int (p1)), (3, .int (p2)), (4, .int (p3))] rfl ?_
  refine zx_aload_n C dX10_finishMove_0 0 rfl ?_
  obtain ⟨k1, i2, hm⟩ := ckO_e hm
  obtain ⟨a3, h4, hm⟩ := osm_e hm
  refine zx_get (j := 2) C tC_10 k1 i2 ⟨by decide, Or.inl W_2_215⟩ dX10_finishMove_1 (.ref a3) (rf_s h4) ?_
  refine zx_iload_n C dX10_finishMove_4 1 rfl ?_
  obtain ⟨k5, i6, hm⟩ := ckO_e hm
  obtain ⟨v7, ρ8, h9, hm⟩ := cll_e hm
  refine zx_callV (σ := σ) C [.int (p0)] tC_8 k5 i6 Y_X8_kind W_5_14 W_3_80 W_3_81 (c_X8_kind h9) (by decide) (by decide) rfl (Nat.le_of_ble_eq_true rfl) dX10_finishMove_5 rfl ?_
  refine zx_iconst (v := 2) C dX10_finishMove_8 (by decide) ?_
  refine zx_icmp_ne C 21 dX10_finishMove_9 (by decide) (fun c10 => ?_) (fun c10 => ?_)
  · replace hm := in_e hm c10
    exact zx_lv [0, 3, 4] [(0, .ref (a0)), (3, .int (p2)), (4, .int (p3))] rfl (j_X10_finishMove_21 C htab hin    hm)
  · replace hm := ip_e hm c10
    refine zx_aload_n C dX10_finishMove_12 0 rfl ?_
    obtain ⟨k20, i21, hm⟩ := ckO_e hm
    obtain ⟨a22, h23, hm⟩ := osm_e hm
    refine zx_get (j := 2) C tC_10 k20 i21 ⟨by decide, Or.inl W_2_215⟩ dX10_finishMove_13 (.ref a22) (rf_s h23) ?_
    refine zx_iload_n C dX10_finishMove_16 1 rfl ?_
    refine zx_iload_n C dX10_finishMove_17 2 rfl ?_
    obtain ⟨k24, i25, hm⟩ := ckO_e hm
    obtain ⟨v26, ρ27, h28, hm⟩ := cll_e hm
    refine zx_callV (σ := ρ8) C [.int (p0), .int (p1)] tC_8 k24 i25 Y_X8_setParent W_5_119 W_5_120 W_5_121 (c_X8_setParent h28) (by decide) (by decide) rfl (Nat.le_of_ble_eq_true rfl) dX10_finishMove_18 rfl ?_
    exact zx_lv [0, 3, 4] [(0, .ref (a0)), (3, .int (p2)), (4, .int (p3))] rfl (j_X10_finishMove_21 C htab hin    hm)
abbrev cX8_discard : ByteArray := prog_10_method_23_code
def yX8_discard : MethodName := ⟨"SyncTree$Tree", "discard", "(I)V"⟩
theorem Y_X8_discard : tY yX8_discard cX8_discard 3 none 1 := ⟨W_5_65, W_1_4, ⟨by decide +kernel, by decide +kernel⟩, by decide +kernel⟩
theorem dX8_discard_0 : decode cX8_discard 0 = .ok (.aload_n 0, 1) := by decide +kernel
theorem dX8_discard_1 : decode cX8_discard 1 = .ok (.iload_n 1, 1) := by decide +kernel
theorem dX8_discard_2 : decode cX8_discard 2 = .ok (.invokevirtual 40, 3) := by decide +kernel
theorem dX8_discard_5 : decode cX8_discard 5 = .ok (.iconst 1, 1) := by decide +kernel
theorem dX8_discard_6 : decode cX8_discard 6 = .ok (.if_icmp .ne 9, 3) := by decide +kernel
theorem dX8_discard_9 : decode cX8_discard 9 = .ok (.aload_n 0, 1) := by decide +kernel
theorem dX8_discard_10 : decode cX8_discard 10 = .ok (.iload_n 1, 1) := by decide +kernel
theorem dX8_discard_11 : decode cX8_discard 11 = .ok (.iconst 0, 1) := by decide +kernel
theorem dX8_discard_12 : decode cX8_discard 12 = .ok (.invokevirtual 95, 3) := by decide +kernel
theorem dX8_discard_15 : decode cX8_discard 15 = .ok (.iconst 0, 1) := by decide +kernel
theorem dX8_discard_16 : decode cX8_discard 16 = .ok (.istore_n 2, 1) := by decide +kernel
theorem dX8_discard_17 : decode cX8_discard 17 = .ok (.iload_n 2, 1) := by decide +kernel
theorem dX8_discard_18 : decode cX8_discard 18 = .ok (.bipush 16, 2) := by decide +kernel
theorem dX8_discard_20 : decode cX8_discard 20 = .ok (.if_icmp .ge 16, 3) := by decide +kernel
theorem dX8_discard_23 : decode cX8_discard 23 = .ok (.aload_n 0, 1) := by decide +kernel
theorem dX8_discard_24 : decode cX8_discard 24 = .ok (.iload_n 1, 1) := by decide +kernel
theorem dX8_discard_25 : decode cX8_discard 25 = .ok (.iload_n 2, 1) := by decide +kernel
theorem dX8_discard_26 : decode cX8_discard 26 = .ok (.lconst 0, 1) := by decide +kernel
theorem dX8_discard_27 : decode cX8_discard 27 = .ok (.invokevirtual 36, 3) := by decide +kernel
theorem dX8_discard_30 : decode cX8_discard 30 = .ok (.iinc 2 1, 3) := by decide +kernel
theorem dX8_discard_33 : decode cX8_discard 33 = .ok (.goto (-16), 3) := by decide +kernel
theorem dX8_discard_36 : decode cX8_discard 36 = .ok (.return_, 1) := by decide +kernel
def L_X8_discard_17 (b0 fu : Nat)  : Nat → Nat → Int32 → Int32 → tM → Option ((Unit) × tM)
  | 0, _, _, _, _ => none
  | n + 1, x0, x1, x2, σ => ltb (L_X8_discard_17 b0 fu  n) (fun rc17 => if (16) ≤ (x2) then some ((), σ) else ckO b0 (σ) (x0) 8 (cll (m_X8_setNodeWord b0 fu (x0) (x1) (x2) (0) (σ)) (fun v10 ρ11 => ltb ((x2) + Int32.ofInt 1) (fun y13 => rc17 (x0) (x1) (y13) (ρ11)))))
def J_X8_discard_15 (b0 fu : Nat)  (x0 : Nat) (x1 : Int32) (σ : tM) : Option ((Unit) × tM) := L_X8_discard_17 b0 fu  (fu) (x0) (x1) (0) (σ)
def m_X8_discard (b0 fu : Nat) (a0 : Nat) (p0 : Int32) (σ : tM) : Option ((Unit) × tM) := grw σ (ckO b0 (σ) (a0) 8 (cll (m_X8_kind b0 fu (a0) (p0) (σ)) (fun v3 ρ4 => if (v3) = (1) then ckO b0 (ρ4) (a0) 8 (cll (m_X8_resize b0 fu (a0) (p0) (0) (ρ4)) (fun v16 ρ17 => J_X8_discard_15 b0 fu   (a0) (p0) (ρ17))) else J_X8_discard_15 b0 fu   (a0) (p0) (ρ4))))
set_option maxRecDepth 100000 in
set_option maxHeartbeats 1000000 in
theorem l_X8_discard_17 {p : Program} {l : Launch} {e : Env} {s : State} {m : MethodId} {args : Array Value} {below : List Frame} {meth : Method} {c : Code} {D : va_G} {aC : Nat → ClassId} {b0 fu : Nat} {σ0 τ : tM} {v : Unit}  (C : tCx p s m args meth c yX8_discard.cls cX8_discard 3 none D aC b0 σ0) (htab : ∀ x ∈ c.exceptionTable.toList, False) (hin : meth.name = yX8_discard.name)  : ∀ (n : Nat) (x0 : Nat) (x1 : Int32) (x2 : Int32) (σ : tM), L_X8_discard_17 b0 fu  n x0 x1 x2 σ = some (v, τ) → tX p l e s m args below meth c 3 5 121 D aC b0 σ0 (.inl none) τ 17 [(0, .ref (x0)), (1, .int (x1)), (2, .int (x2))] [] σ := by
  intro n
  induction n with
  | zero => intro x0 x1 x2 σ hm; unfold L_X8_discard_17 at hm; cases hm
  | succ n ih =>
    intro x0 x1 x2 σ hm
    unfold L_X8_discard_17 at hm
    obtain ⟨rc17, hrc⟩ : ∃ z, z = L_X8_discard_17 b0 fu  n := ⟨_, rfl⟩
    replace hm := ltb_e hm hrc
    rw [← hrc] at ih
    have hrc17 := ih
    clear ih hrc
    refine zx_iload_n C dX8_discard_17 2 rfl ?_
    refine zx_bipush (v := 16) C dX8_discard_18 (by decide) ?_
    refine zx_icmp_ge C 36 dX8_discard_20 (by decide) (fun c7 => ?_) (fun c7 => ?_)
    · replace hm := ip_e hm c7
      obtain ⟨rfl, rfl⟩ := ret_e hm
      exact zx_vret C rfl rfl rfl dX8_discard_36
    · replace hm := in_e hm c7
      refine zx_aload_n C dX8_discard_23 0 rfl ?_
      refine zx_iload_n C dX8_discard_24 1 rfl ?_
      refine zx_iload_n C dX8_discard_25 2 rfl ?_
      refine zx_lconst (v := 0) C dX8_discard_26 (by decide) ?_
      obtain ⟨k8, i9, hm⟩ := ckO_e hm
      obtain ⟨v10, ρ11, h12, hm⟩ := cll_e hm
      refine zx_callV (σ := σ) C [.int (x1), .int (x2), .long (0)] tC_8 k8 i9 Y_X8_setNodeWord W_2_152 W_2_154 Wp_6 (c_X8_setNodeWord h12) (by decide) (by decide) rfl (Nat.le_of_ble_eq_true rfl) dX8_discard_27 rfl ?_
      obtain ⟨y13, hy13⟩ : ∃ z : Int32, z = (x2) + Int32.ofInt 1 := ⟨_, rfl⟩
      replace hm := ltb_e hm hy13
      refine zx_iinc C [(2, .int (y13)), (0, .ref (x0)), (1, .int (x1))] dX8_discard_30 2 rfl hy13.symm (by decide) rfl ?_
      refine zx_goto C 17 dX8_discard_33 (by decide) ?_
      exact zx_lv [1, 2, 0] [(0, .ref (x0)), (1, .int (x1)), (2, .int (y13))] rfl (hrc17 _ _ _ _ hm)
set_option maxRecDepth 100000 in
set_option maxHeartbeats 1000000 in
theorem j_X8_discard_15 {p : Program} {l : Launch} {e : Env} {s : State} {m : MethodId} {args : Array Value} {below : List Frame} {meth : Method} {c : Code} {D : va_G} {aC : Nat → ClassId} {b0 fu : Nat} {σ0 τ : tM} {v : Unit}  (C : tCx p s m args meth c yX8_discard.cls cX8_discard 3 none D aC b0 σ0) (htab : ∀ x ∈ c.exceptionTable.toList, False) (hin : meth.name = yX8_discard.name)  {x0 : Nat} {x1 : Int32} {σ : tM} (hm : J_X8_discard_15 b0 fu  x0 x1 σ = some (v, τ)) : tX p l e s m args below meth c 3 5 121 D aC b0 σ0 (.inl none) τ 15 [(0, .ref (x0)), (1, .int (x1))] [] σ := by
  unfold J_X8_discard_15 at hm
  refine zx_iconst (v := 0) C dX8_discard_15 (by decide) ?_
  refine zx_istore_n C [(2, .int (0)), (0, .ref (x0)), (1, .int (x1))] dX8_discard_16 rfl (by decide) rfl ?_
  exact zx_lv [1, 2, 0] [(0, .ref (x0)), (1, .int (x1)), (2, .int (0))] rfl (l_X8_discard_17 C htab hin  _ _ _ _ _ hm)
set_option maxRecDepth 100000 in
set_option maxHeartbeats 1000000 in
theorem c_X8_discard {l : Launch} {D : va_G} {aC : Nat → ClassId} {b0 fu : Nat} {a0 : Nat} {p0 : Int32} {σ τ : tM} {v : Unit} (hm : m_X8_discard b0 fu a0 p0 σ = some (v, τ)) : tMt l D aC b0 yX8_discard (Cond.code yX8_discard cX8_discard 3 none) 5 121 [.ref (a0), .int (p0)] σ (.inl none) τ := by
  unfold m_X8_discard at hm
  obtain ⟨hg, hm⟩ := grw_e hm
  refine tMt_of (n := 0) rfl (Nat.le_of_ble_eq_true rfl) hg ?_
  intro p e s m below meth c C htab hin
  refine zx_lv [0, 1] [(0, .ref (a0)), (1, .int (p0))] rfl ?_
  refine zx_aload_n C dX8_discard_0 0 rfl ?_
  refine zx_iload_n C dX8_discard_1 1 rfl ?_
  obtain ⟨k1, i2, hm⟩ := ckO_e hm
  obtain ⟨v3, ρ4, h5, hm⟩ := cll_e hm
  refine zx_callV (σ := σ) C [.int (p0)] tC_8 k1 i2 Y_X8_kind W_3_79 W_3_80 W_3_81 (c_X8_kind h5) (by decide) (by decide) rfl (Nat.le_of_ble_eq_true rfl) dX8_discard_2 rfl ?_
  refine zx_iconst (v := 1) C dX8_discard_5 (by decide) ?_
  refine zx_icmp_ne C 15 dX8_discard_6 (by decide) (fun c6 => ?_) (fun c6 => ?_)
  · replace hm := in_e hm c6
    exact zx_lv [0, 1] [(0, .ref (a0)), (1, .int (p0))] rfl (j_X8_discard_15 C htab hin    hm)
  · replace hm := ip_e hm c6
    refine zx_aload_n C dX8_discard_9 0 rfl ?_
    refine zx_iload_n C dX8_discard_10 1 rfl ?_
    refine zx_iconst (v := 0) C dX8_discard_11 (by decide) ?_
    obtain ⟨k14, i15, hm⟩ := ckO_e hm
    obtain ⟨v16, ρ17, h18, hm⟩ := cll_e hm
    refine zx_callV (σ := ρ4) C [.int (p0), .int (0)] tC_8 k14 i15 Y_X8_resize W_5_66 W_5_67 W_5_68 (c_X8_resize h18) (by decide) (by decide) rfl (Nat.le_of_ble_eq_true rfl) dX8_discard_12 rfl ?_
    exact zx_lv [0, 1] [(0, .ref (a0)), (1, .int (p0))] rfl (j_X8_discard_15 C htab hin    hm)
abbrev cX8_discardNameless : ByteArray := prog_10_method_24_code
def yX8_discardNameless : MethodName := ⟨"SyncTree$Tree", "discardNameless", "()V"⟩
theorem Y_X8_discardNameless : tY yX8_discardNameless cX8_discardNameless 3 none 0 := ⟨W_6_188, W_1_4, ⟨by decide +kernel, by decide +kernel⟩, by decide +kernel⟩
theorem dX8_discardNameless_0 : decode cX8_discardNameless 0 = .ok (.iconst 0, 1) := by decide +kernel
theorem dX8_discardNameless_1 : decode cX8_discardNameless 1 = .ok (.istore_n 1, 1) := by decide +kernel
theorem dX8_discardNameless_2 : decode cX8_discardNameless 2 = .ok (.iload_n 1, 1) := by decide +kernel
theorem dX8_discardNameless_3 : decode cX8_discardNameless 3 = .ok (.bipush 64, 2) := by decide +kernel
theorem dX8_discardNameless_5 : decode cX8_discardNameless 5 = .ok (.if_icmp .ge 38, 3) := by decide +kernel
theorem dX8_discardNameless_8 : decode cX8_discardNameless 8 = .ok (.aload_n 0, 1) := by decide +kernel
theorem dX8_discardNameless_9 : decode cX8_discardNameless 9 = .ok (.iload_n 1, 1) := by decide +kernel
theorem dX8_discardNameless_10 : decode cX8_discardNameless 10 = .ok (.invokevirtual 40, 3) := by decide +kernel
theorem dX8_discardNameless_13 : decode cX8_discardNameless 13 = .ok (.istore_n 2, 1) := by decide +kernel
theorem dX8_discardNameless_14 : decode cX8_discardNameless 14 = .ok (.iload_n 2, 1) := by decide +kernel
theorem dX8_discardNameless_15 : decode cX8_discardNameless 15 = .ok (.iconst 1, 1) := by decide +kernel
theorem dX8_discardNameless_16 : decode cX8_discardNameless 16 = .ok (.if_icmp .eq 8, 3) := by decide +kernel
theorem dX8_discardNameless_19 : decode cX8_discardNameless 19 = .ok (.iload_n 2, 1) := by decide +kernel
theorem dX8_discardNameless_20 : decode cX8_discardNameless 20 = .ok (.iconst 3, 1) := by decide +kernel
theorem dX8_discardNameless_21 : decode cX8_discardNameless 21 = .ok (.if_icmp .ne 16, 3) := by decide +kernel
theorem dX8_discardNameless_24 : decode cX8_discardNameless 24 = .ok (.aload_n 0, 1) := by decide +kernel
theorem dX8_discardNameless_25 : decode cX8_discardNameless 25 = .ok (.iload_n 1, 1) := by decide +kernel
theorem dX8_discardNameless_26 : decode cX8_discardNameless 26 = .ok (.invokevirtual 60, 3) := by decide +kernel
theorem dX8_discardNameless_29 : decode cX8_discardNameless 29 = .ok (.ifCond .ne 8, 3) := by decide +kernel
theorem dX8_discardNameless_32 : decode cX8_discardNameless 32 = .ok (.aload_n 0, 1) := by decide +kernel
theorem dX8_discardNameless_33 : decode cX8_discardNameless 33 = .ok (.iload_n 1, 1) := by decide +kernel
theorem dX8_discardNameless_34 : decode cX8_discardNameless 34 = .ok (.invokevirtual 98, 3) := by decide +kernel
theorem dX8_discardNameless_37 : decode cX8_discardNameless 37 = .ok (.iinc 1 1, 3) := by decide +kernel
theorem dX8_discardNameless_40 : decode cX8_discardNameless 40 = .ok (.goto (-38), 3) := by decide +kernel
theorem dX8_discardNameless_43 : decode cX8_discardNameless 43 = .ok (.return_, 1) := by decide +kernel
def J_X8_discardNameless_37 (b0 fu : Nat) (rc2 : Nat → Int32 → tM → Option ((Unit) × tM)) (x0 : Nat) (x1 : Int32) (σ : tM) : Option ((Unit) × tM) := ltb ((x1) + Int32.ofInt 1) (fun y14 => rc2 (x0) (y14) (σ))
def J_X8_discardNameless_24 (b0 fu : Nat) (rc2 : Nat → Int32 → tM → Option ((Unit) × tM)) (x0 : Nat) (x1 : Int32) (σ : tM) : Option ((Unit) × tM) := ckO b0 (σ) (x0) 8 (cll (m_X8_names b0 fu (x0) (x1) (σ)) (fun v10 ρ11 => if (v10) = (0) then ckO b0 (ρ11) (x0) 8 (cll (m_X8_discard b0 fu (x0) (x1) (ρ11)) (fun v17 ρ18 => J_X8_discardNameless_37 b0 fu rc2  (x0) (x1) (ρ18))) else J_X8_discardNameless_37 b0 fu rc2  (x0) (x1) (ρ11)))
def L_X8_discardNameless_2 (b0 fu : Nat)  : Nat → Nat → Int32 → tM → Option ((Unit) × tM)
  | 0, _, _, _ => none
  | n + 1, x0, x1, σ => ltb (L_X8_discardNameless_2 b0 fu  n) (fun rc2 => if (64) ≤ (x1) then some ((), σ) else ckO b0 (σ) (x0) 8 (cll (m_X8_kind b0 fu (x0) (x1) (σ)) (fun v4 ρ5 => if (v4) = (1) then J_X8_discardNameless_24 b0 fu rc2  (x0) (x1) (ρ5) else if (v4) = (3) then J_X8_discardNameless_24 b0 fu rc2  (x0) (x1) (ρ5) else J_X8_discardNameless_37 b0 fu rc2  (x0) (x1) (ρ5))))
def m_X8_discardNameless (b0 fu : Nat) (a0 : Nat) (σ : tM) : Option ((Unit) × tM) := grw σ (L_X8_discardNameless_2 b0 fu  (fu) (a0) (0) (σ))
set_option maxRecDepth 100000 in
set_option maxHeartbeats 1000000 in
theorem j_X8_discardNameless_37 {p : Program} {l : Launch} {e : Env} {s : State} {m : MethodId} {args : Array Value} {below : List Frame} {meth : Method} {c : Code} {D : va_G} {aC : Nat → ClassId} {b0 fu : Nat} {σ0 τ : tM} {v : Unit} {rc2 : Nat → Int32 → tM → Option ((Unit) × tM)} (C : tCx p s m args meth c yX8_discardNameless.cls cX8_discardNameless 3 none D aC b0 σ0) (htab : ∀ x ∈ c.exceptionTable.toList, False) (hin : meth.name = yX8_discardNameless.name) (hrc2 : ∀ (x0 : Nat) (x1 : Int32) (ρ : tM), rc2 x0 x1 ρ = some (v, τ) → tX p l e s m args below meth c 3 6 143 D aC b0 σ0 (.inl none) τ 2 [(0, .ref (x0)), (1, .int (x1))] [] ρ) {x0 : Nat} {x1 : Int32} {σ : tM} (hm : J_X8_discardNameless_37 b0 fu rc2 x0 x1 σ = some (v, τ)) : tX p l e s m args below meth c 3 6 143 D aC b0 σ0 (.inl none) τ 37 [(0, .ref (x0)), (1, .int (x1))] [] σ := by
  unfold J_X8_discardNameless_37 at hm
  obtain ⟨y14, hy14⟩ : ∃ z : Int32, z = (x1) + Int32.ofInt 1 := ⟨_, rfl⟩
  replace hm := ltb_e hm hy14
  refine zx_iinc C [(1, .int (y14)), (0, .ref (x0))] dX8_discardNameless_37 1 rfl hy14.symm (by decide) rfl ?_
  refine zx_goto C 2 dX8_discardNameless_40 (by decide) ?_
  exact zx_lv [1, 0] [(0, .ref (x0)), (1, .int (y14))] rfl (hrc2 _ _ _ hm)
set_option maxRecDepth 100000 in
set_option maxHeartbeats 1000000 in
theorem j_X8_discardNameless_24 {p : Program} {l : Launch} {e : Env} {s : State} {m : MethodId} {args : Array Value} {below : List Frame} {meth : Method} {c : Code} {D : va_G} {aC : Nat → ClassId} {b0 fu : Nat} {σ0 τ : tM} {v : Unit} {rc2 : Nat → Int32 → tM → Option ((Unit) × tM)} (C : tCx p s m args meth c yX8_discardNameless.cls cX8_discardNameless 3 none D aC b0 σ0) (htab : ∀ x ∈ c.exceptionTable.toList, False) (hin : meth.name = yX8_discardNameless.name) (hrc2 : ∀ (x0 : Nat) (x1 : Int32) (ρ : tM), rc2 x0 x1 ρ = some (v, τ) → tX p l e s m args below meth c 3 6 143 D aC b0 σ0 (.inl none) τ 2 [(0, .ref (x0)), (1, .int (x1))] [] ρ) {x0 : Nat} {x1 : Int32} {σ : tM} (hm : J_X8_discardNameless_24 b0 fu rc2 x0 x1 σ = some (v, τ)) : tX p l e s m args below meth c 3 6 143 D aC b0 σ0 (.inl none) τ 24 [(0, .ref (x0)), (1, .int (x1))] [] σ := by
  unfold J_X8_discardNameless_24 at hm
  refine zx_aload_n C dX8_discardNameless_24 0 rfl ?_
  refine zx_iload_n C dX8_discardNameless_25 1 rfl ?_
  obtain ⟨k8, i9, hm⟩ := ckO_e hm
  obtain ⟨v10, ρ11, h12, hm⟩ := cll_e hm
  refine zx_callV (σ := σ) C [.int (x1)] tC_8 k8 i9 Y_X8_names W_4_190 W_4_191 W_4_192 (c_X8_names h12) (by decide) (by decide) rfl (Nat.le_of_ble_eq_true rfl) dX8_discardNameless_26 rfl ?_
  refine zx_if_ne C 37 dX8_discardNameless_29 (by decide) (fun c13 => ?_) (fun c13 => ?_)
  · replace hm := in_e hm c13
    exact zx_lv [0, 1] [(0, .ref (x0)), (1, .int (x1))] rfl (j_X8_discardNameless_37 C htab hin hrc2   hm)
  · replace hm := ip_e hm c13
    refine zx_aload_n C dX8_discardNameless_32 0 rfl ?_
    refine zx_iload_n C dX8_discardNameless_33 1 rfl ?_
    obtain ⟨k15, i16, hm⟩ := ckO_e hm
    obtain ⟨v17, ρ18, h19, hm⟩ := cll_e hm
    refine zx_callV (σ := ρ11) C [.int (x1)] tC_8 k15 i16 Y_X8_discard W_6_189 W_5_63 W_5_64 (c_X8_discard h19) (by decide) (by decide) rfl (Nat.le_of_ble_eq_true rfl) dX8_discardNameless_34 rfl ?_
    exact zx_lv [0, 1] [(0, .ref (x0)), (1, .int (x1))] rfl (j_X8_discardNameless_37 C htab hin hrc2   hm)
set_option maxRecDepth 100000 in
set_option maxHeartbeats 1000000 in
theorem l_X8_discardNameless_2 {p : Program} {l : Launch} {e : Env} {s : State} {m : MethodId} {args : Array Value} {below : List Frame} {meth : Method} {c : Code} {D : va_G} {aC : Nat → ClassId} {b0 fu : Nat} {σ0 τ : tM} {v : Unit}  (C : tCx p s m args meth c yX8_discardNameless.cls cX8_discardNameless 3 none D aC b0 σ0) (htab : ∀ x ∈ c.exceptionTable.toList, False) (hin : meth.name = yX8_discardNameless.name)  : ∀ (n : Nat) (x0 : Nat) (x1 : Int32) (σ : tM), L_X8_discardNameless_2 b0 fu  n x0 x1 σ = some (v, τ) → tX p l e s m args below meth c 3 6 143 D aC b0 σ0 (.inl none) τ 2 [(0, .ref (x0)), (1, .int (x1))] [] σ := by
  intro n
  induction n with
  | zero => intro x0 x1 σ hm; unfold L_X8_discardNameless_2 at hm; cases hm
  | succ n ih =>
    intro x0 x1 σ hm
    unfold L_X8_discardNameless_2 at hm
    obtain ⟨rc2, hrc⟩ : ∃ z, z = L_X8_discardNameless_2 b0 fu  n := ⟨_, rfl⟩
    replace hm := ltb_e hm hrc
    rw [← hrc] at ih
    have hrc2 := ih
    clear ih hrc
    refine zx_iload_n C dX8_discardNameless_2 1 rfl ?_
    refine zx_bipush (v := 64) C dX8_discardNameless_3 (by decide) ?_
    refine zx_icmp_ge C 43 dX8_discardNameless_5 (by decide) (fun c1 => ?_) (fun c1 => ?_)
    · replace hm := ip_e hm c1
      obtain ⟨rfl, rfl⟩ := ret_e hm
      exact zx_vret C rfl rfl rfl dX8_discardNameless_43
    · replace hm := in_e hm c1
      refine zx_aload_n C dX8_discardNameless_8 0 rfl ?_
      refine zx_iload_n C dX8_discardNameless_9 1 rfl ?_
      obtain ⟨k2, i3, hm⟩ := ckO_e hm
      obtain ⟨v4, ρ5, h6, hm⟩ := cll_e hm
      refine zx_callV (σ := σ) C [.int (x1)] tC_8 k2 i3 Y_X8_kind W_3_79 W_3_80 W_3_81 (c_X8_kind h6) (by decide) (by decide) rfl (Nat.le_of_ble_eq_true rfl) dX8_discardNameless_10 rfl ?_
      refine zx_istore_n C [(2, .int (v4)), (0, .ref (x0)), (1, .int (x1))] dX8_discardNameless_13 rfl (by decide) rfl ?_
      refine zx_iload_n C dX8_discardNameless_14 0 rfl ?_
      refine zx_iconst (v := 1) C dX8_discardNameless_15 (by decide) ?_
      refine zx_icmp_eq C 24 dX8_discardNameless_16 (by decide) (fun c7 => ?_) (fun c7 => ?_)
      · replace hm := ip_e hm c7
        exact zx_lv [1, 2] [(0, .ref (x0)), (1, .int (x1))] rfl (j_X8_discardNameless_24 C htab hin hrc2   hm)
      · replace hm := in_e hm c7
        refine zx_iload_n C dX8_discardNameless_19 0 rfl ?_
        refine zx_iconst (v := 3) C dX8_discardNameless_20 (by decide) ?_
        refine zx_icmp_ne C 37 dX8_discardNameless_21 (by decide) (fun c20 => ?_) (fun c20 => ?_)
        · replace hm := in_e hm c20
          exact zx_lv [1, 2] [(0, .ref (x0)), (1, .int (x1))] rfl (j_X8_discardNameless_37 C htab hin hrc2   hm)
        · replace hm := ip_e hm c20
          exact zx_lv [1, 2] [(0, .ref (x0)), (1, .int (x1))] rfl (j_X8_discardNameless_24 C htab hin hrc2   hm)
set_option maxRecDepth 100000 in
set_option maxHeartbeats 1000000 in
theorem c_X8_discardNameless {l : Launch} {D : va_G} {aC : Nat → ClassId} {b0 fu : Nat} {a0 : Nat} {σ τ : tM} {v : Unit} (hm : m_X8_discardNameless b0 fu a0 σ = some (v, τ)) : tMt l D aC b0 yX8_discardNameless (Cond.code yX8_discardNameless cX8_discardNameless 3 none) 6 143 [.ref (a0)] σ (.inl none) τ := by
  unfold m_X8_discardNameless at hm
  obtain ⟨hg, hm⟩ := grw_e hm
  refine tMt_of (n := 0) rfl (Nat.le_of_ble_eq_true rfl) hg ?_
  intro p e s m below meth c C htab hin
  refine zx_lv [0] [(0, .ref (a0))] rfl ?_
  refine zx_iconst (v := 0) C dX8_discardNameless_0 (by decide) ?_
  refine zx_istore_n C [(1, .int (0)), (0, .ref (a0))] dX8_discardNameless_1 rfl (by decide) rfl ?_
  exact zx_lv [1, 0] [(0, .ref (a0)), (1, .int (0))] rfl (l_X8_discardNameless_2 C htab hin  _ _ _ _ hm)
abbrev cX10_loseName : ByteArray := prog_1_method_18_code
def yX10_loseName : MethodName := ⟨"SyncTree", "loseName", "(I)V"⟩
theorem Y_X10_loseName : tY yX10_loseName cX10_loseName 3 none 1 := ⟨W_5_61, W_1_1, ⟨by decide +kernel, by decide +kernel⟩, by decide +kernel⟩
theorem dX10_loseName_0 : decode cX10_loseName 0 = .ok (.aload_n 0, 1) := by decide +kernel
theorem dX10_loseName_1 : decode cX10_loseName 1 = .ok (.getfield 28, 3) := by decide +kernel
theorem dX10_loseName_4 : decode cX10_loseName 4 = .ok (.iload_n 1, 1) := by decide +kernel
theorem dX10_loseName_5 : decode cX10_loseName 5 = .ok (.invokevirtual 168, 3) := by decide +kernel
theorem dX10_loseName_8 : decode cX10_loseName 8 = .ok (.iconst 2, 1) := by decide +kernel
theorem dX10_loseName_9 : decode cX10_loseName 9 = .ok (.if_icmp .ne 12, 3) := by decide +kernel
theorem dX10_loseName_12 : decode cX10_loseName 12 = .ok (.aload_n 0, 1) := by decide +kernel
theorem dX10_loseName_13 : decode cX10_loseName 13 = .ok (.getfield 28, 3) := by decide +kernel
theorem dX10_loseName_16 : decode cX10_loseName 16 = .ok (.iload_n 1, 1) := by decide +kernel
theorem dX10_loseName_17 : decode cX10_loseName 17 = .ok (.invokevirtual 196, 3) := by decide +kernel
theorem dX10_loseName_20 : decode cX10_loseName 20 = .ok (.return_, 1) := by decide +kernel
theorem dX10_loseName_21 : decode cX10_loseName 21 = .ok (.aload_n 0, 1) := by decide +kernel
theorem dX10_loseName_22 : decode cX10_loseName 22 = .ok (.getfield 28, 3) := by decide +kernel
theorem dX10_loseName_25 : decode cX10_loseName 25 = .ok (.iload_n 1, 1) := by decide +kernel
theorem dX10_loseName_26 : decode cX10_loseName 26 = .ok (.invokevirtual 172, 3) := by decide +kernel
theorem dX10_loseName_29 : decode cX10_loseName 29 = .ok (.iconst 1, 1) := by decide +kernel
theorem dX10_loseName_30 : decode cX10_loseName 30 = .ok (.isub, 1) := by decide +kernel
theorem dX10_loseName_31 : decode cX10_loseName 31 = .ok (.istore_n 2, 1) := by decide +kernel
theorem dX10_loseName_32 : decode cX10_loseName 32 = .ok (.aload_n 0, 1) := by decide +kernel
theorem dX10_loseName_33 : decode cX10_loseName 33 = .ok (.getfield 28, 3) := by decide +kernel
theorem dX10_loseName_36 : decode cX10_loseName 36 = .ok (.iload_n 1, 1) := by decide +kernel
theorem dX10_loseName_37 : decode cX10_loseName 37 = .ok (.iload_n 2, 1) := by decide +kernel
theorem dX10_loseName_38 : decode cX10_loseName 38 = .ok (.invokevirtual 175, 3) := by decide +kernel
theorem dX10_loseName_41 : decode cX10_loseName 41 = .ok (.iload_n 2, 1) := by decide +kernel
theorem dX10_loseName_42 : decode cX10_loseName 42 = .ok (.ifCond .gt 19, 3) := by decide +kernel
theorem dX10_loseName_45 : decode cX10_loseName 45 = .ok (.aload_n 0, 1) := by decide +kernel
theorem dX10_loseName_46 : decode cX10_loseName 46 = .ok (.iload_n 1, 1) := by decide +kernel
theorem dX10_loseName_47 : decode cX10_loseName 47 = .ok (.invokevirtual 218, 3) := by decide +kernel
theorem dX10_loseName_50 : decode cX10_loseName 50 = .ok (.ifCond .ne 11, 3) := by decide +kernel
theorem dX10_loseName_53 : decode cX10_loseName 53 = .ok (.aload_n 0, 1) := by decide +kernel
theorem dX10_loseName_54 : decode cX10_loseName 54 = .ok (.getfield 28, 3) := by decide +kernel
theorem dX10_loseName_57 : decode cX10_loseName 57 = .ok (.iload_n 1, 1) := by decide +kernel
theorem dX10_loseName_58 : decode cX10_loseName 58 = .ok (.invokevirtual 196, 3) := by decide +kernel
theorem dX10_loseName_61 : decode cX10_loseName 61 = .ok (.return_, 1) := by decide +kernel
def J_X10_loseName_61 (b0 fu : Nat)   (σ : tM) : Option ((Unit) × tM) := some ((), σ)
def m_X10_loseName (b0 fu : Nat) (a0 : Nat) (p0 : Int32) (σ : tM) : Option ((Unit) × tM) := grw σ (ckO b0 (σ) (a0) 10 (osm (tA (σ) (a0) 2) (fun a3 => ckO b0 (σ) (a3) 8 (cll (m_X8_kind b0 fu (a3) (p0) (σ)) (fun v7 ρ8 => if (v7) = (2) then ckO b0 (ρ8) (a0) 10 (osm (tA (ρ8) (a0) 2) (fun a48 => ckO b0 (ρ8) (a48) 8 (cll (m_X8_discard b0 fu (a48) (p0) (ρ8)) (fun v52 ρ53 => some ((), ρ53))))) else ckO b0 (ρ8) (a0) 10 (osm (tA (ρ8) (a0) 2) (fun a13 => ckO b0 (ρ8) (a13) 8 (cll (m_X8_names b0 fu (a13) (p0) (ρ8)) (fun v17 ρ18 => ltb (((v17) - (1) : Int32)) (fun y20 => ckO b0 (ρ18) (a0) 10 (osm (tA (ρ18) (a0) 2) (fun a23 => ckO b0 (ρ18) (a23) 8 (cll (m_X8_setNames b0 fu (a23) (p0) (y20) (ρ18)) (fun v27 ρ28 => if (0) < (y20) then J_X10_loseName_61 b0 fu    (ρ28) else ckO b0 (ρ28) (a0) 10 (cll (m_X10_isHeld b0 fu (a0) (p0) (ρ28)) (fun v33 ρ34 => if (v33) = (0) then ckO b0 (ρ34) (a0) 10 (osm (tA (ρ34) (a0) 2) (fun a39 => ckO b0 (ρ34) (a39) 8 (cll (m_X8_discard b0 fu (a39) (p0) (ρ34)) (fun v43 ρ44 => J_X10_loseName_61 b0 fu    (ρ44))))) else J_X10_loseName_61 b0 fu    (ρ34)))))))))))))))))
set_option maxRecDepth 100000 in
set_option maxHeartbeats 1000000 in
theorem j_X10_loseName_61 {p : Program} {l : Launch} {e : Env} {s : State} {m : MethodId} {args : Array Value} {below : List Frame} {meth : Method} {c : Code} {D : va_G} {aC : Nat → ClassId} {b0 fu : Nat} {σ0 τ : tM} {v : Unit}  (C : tCx p s m args meth c yX10_loseName.cls cX10_loseName 3 none D aC b0 σ0) (htab : ∀ x ∈ c.exceptionTable.toList, False) (hin : meth.name = yX10_loseName.name)   {σ : tM} (hm : J_X10_loseName_61 b0 fu   σ = some (v, τ)) : tX p l e s m args below meth c 3 6 143 D aC b0 σ0 (.inl none) τ 61 [] [] σ := by
  unfold J_X10_loseName_61 at hm
  obtain ⟨rfl, rfl⟩ := ret_e hm
  exact zx_vret C rfl rfl rfl dX10_loseName_61
set_option maxRecDepth 100000 in
set_option maxHeartbeats 1000000 in
theorem c_X10_loseName {l : Launch} {D : va_G} {aC : Nat → ClassId} {b0 fu : Nat} {a0 : Nat} {p0 : Int32} {σ τ : tM} {v : Unit} (hm : m_X10_loseName b0 fu a0 p0 σ = some (v, τ)) : tMt l D aC b0 yX10_loseName (Cond.code yX10_loseName cX10_loseName 3 none) 6 143 [.ref (a0), .int (p0)] σ (.inl none) τ := by
  unfold m_X10_loseName at hm
  obtain ⟨hg, hm⟩ := grw_e hm
  refine tMt_of (n := 0) rfl (Nat.le_of_ble_eq_true rfl) hg ?_
  intro p e s m below meth c C htab hin
  refine zx_lv [0, 1] [(0, .ref (a0)), (1, .int (p0))] rfl ?_
  refine zx_aload_n C dX10_loseName_0 0 rfl ?_
  obtain ⟨k1, i2, hm⟩ := ckO_e hm
  obtain ⟨a3, h4, hm⟩ := osm_e hm
  refine zx_get (j := 2) C tC_10 k1 i2 ⟨by decide, Or.inl W_2_215⟩ dX10_loseName_1 (.ref a3) (rf_s h4) ?_
  refine zx_iload_n C dX10_loseName_4 1 rfl ?_
  obtain ⟨k5, i6, hm⟩ := ckO_e hm
  obtain ⟨v7, ρ8, h9, hm⟩ := cll_e hm
  refine zx_callV (σ := σ) C [.int (p0)] tC_8 k5 i6 Y_X8_kind W_5_14 W_3_80 W_3_81 (c_X8_kind h9) (by decide) (by decide) rfl (Nat.le_of_ble_eq_true rfl) dX10_loseName_5 rfl ?_
  refine zx_iconst (v := 2) C dX10_loseName_8 (by decide) ?_
  refine zx_icmp_ne C 21 dX10_loseName_9 (by decide) (fun c10 => ?_) (fun c10 => ?_)
  · replace hm := in_e hm c10
    refine zx_aload_n C dX10_loseName_21 0 rfl ?_
    obtain ⟨k11, i12, hm⟩ := ckO_e hm
    obtain ⟨a13, h14, hm⟩ := osm_e hm
    refine zx_get (j := 2) C tC_10 k11 i12 ⟨by decide, Or.inl W_2_215⟩ dX10_loseName_22 (.ref a13) (rf_s h14) ?_
    refine zx_iload_n C dX10_loseName_25 1 rfl ?_
    obtain ⟨k15, i16, hm⟩ := ckO_e hm
    obtain ⟨v17, ρ18, h19, hm⟩ := cll_e hm
    refine zx_callV (σ := ρ8) C [.int (p0)] tC_8 k15 i16 Y_X8_names W_5_15 W_4_191 W_4_192 (c_X8_names h19) (by decide) (by decide) rfl (Nat.le_of_ble_eq_true rfl) dX10_loseName_26 rfl ?_
    refine zx_iconst (v := 1) C dX10_loseName_29 (by decide) ?_
    refine zx_isub C dX10_loseName_30 ?_
    refine zx_topi (fun y20 hy20 => ?_)
    replace hm := ltb_e hm hy20
    refine zx_istore_n C [(2, .int (y20)), (0, .ref (a0)), (1, .int (p0))] dX10_loseName_31 rfl (by decide) rfl ?_
    refine zx_aload_n C dX10_loseName_32 1 rfl ?_
    obtain ⟨k21, i22, hm⟩ := ckO_e hm
    obtain ⟨a23, h24, hm⟩ := osm_e hm
    refine zx_get (j := 2) C tC_10 k21 i22 ⟨by decide, Or.inl W_2_215⟩ dX10_loseName_33 (.ref a23) (rf_s h24) ?_
    refine zx_iload_n C dX10_loseName_36 2 rfl ?_
    refine zx_iload_n C dX10_loseName_37 0 rfl ?_
    obtain ⟨k25, i26, hm⟩ := ckO_e hm
    obtain ⟨v27, ρ28, h29, hm⟩ := cll_e hm
    refine zx_callV (σ := ρ18) C [.int (p0), .int (y20)] tC_8 k25 i26 Y_X8_setNames W_5_16 W_5_17 W_5_18 (c_X8_setNames h29) (by decide) (by decide) rfl (Nat.le_of_ble_eq_true rfl) dX10_loseName_38 rfl ?_
    refine zx_iload_n C dX10_loseName_41 0 rfl ?_
    refine zx_if_gt C 61 dX10_loseName_42 (by decide) (fun c30 => ?_) (fun c30 => ?_)
    · replace hm := ip_e hm c30
      exact zx_lv [] [] rfl (j_X10_loseName_61 C htab hin    hm)
    · replace hm := in_e hm c30
      refine zx_aload_n C dX10_loseName_45 1 rfl ?_
      refine zx_iload_n C dX10_loseName_46 2 rfl ?_
      obtain ⟨k31, i32, hm⟩ := ckO_e hm
      obtain ⟨v33, ρ34, h35, hm⟩ := cll_e hm
      refine zx_callV (σ := ρ28) C [.int (p0)] tC_10 k31 i32 Y_X10_isHeld W_5_84 W_5_86 Wp_38 (c_X10_isHeld h35) (by decide) (by decide) rfl (Nat.le_of_ble_eq_true rfl) dX10_loseName_47 rfl ?_
      refine zx_if_ne C 61 dX10_loseName_50 (by decide) (fun c36 => ?_) (fun c36 => ?_)
      · replace hm := in_e hm c36
        exact zx_lv [] [] rfl (j_X10_loseName_61 C htab hin    hm)
      · replace hm := ip_e hm c36
        refine zx_aload_n C dX10_loseName_53 1 rfl ?_
        obtain ⟨k37, i38, hm⟩ := ckO_e hm
        obtain ⟨a39, h40, hm⟩ := osm_e hm
        refine zx_get (j := 2) C tC_10 k37 i38 ⟨by decide, Or.inl W_2_215⟩ dX10_loseName_54 (.ref a39) (rf_s h40) ?_
        refine zx_iload_n C dX10_loseName_57 2 rfl ?_
        obtain ⟨k41, i42, hm⟩ := ckO_e hm
        obtain ⟨v43, ρ44, h45, hm⟩ := cll_e hm
        refine zx_callV (σ := ρ34) C [.int (p0)] tC_8 k41 i42 Y_X8_discard W_5_62 W_5_63 W_5_64 (c_X8_discard h45) (by decide) (by decide) rfl (Nat.le_of_ble_eq_true rfl) dX10_loseName_58 rfl ?_
        exact zx_lv [] [] rfl (j_X10_loseName_61 C htab hin    hm)
  · replace hm := ip_e hm c10
    refine zx_aload_n C dX10_loseName_12 0 rfl ?_
    obtain ⟨k46, i47, hm⟩ := ckO_e hm
    obtain ⟨a48, h49, hm⟩ := osm_e hm
    refine zx_get (j := 2) C tC_10 k46 i47 ⟨by decide, Or.inl W_2_215⟩ dX10_loseName_13 (.ref a48) (rf_s h49) ?_
    refine zx_iload_n C dX10_loseName_16 1 rfl ?_
    obtain ⟨k50, i51, hm⟩ := ckO_e hm
    obtain ⟨v52, ρ53, h54, hm⟩ := cll_e hm
    refine zx_callV (σ := ρ8) C [.int (p0)] tC_8 k50 i51 Y_X8_discard W_5_62 W_5_63 W_5_64 (c_X8_discard h54) (by decide) (by decide) rfl (Nat.le_of_ble_eq_true rfl) dX10_loseName_17 rfl ?_
    obtain ⟨rfl, rfl⟩ := ret_e hm
    exact zx_vret C rfl rfl rfl dX10_loseName_20
