abbrev cX12_get : ByteArray := prog_13_method_31_code
def yX12_get : MethodName := ⟨"SyncTreeModel", "get", "(Z)I"⟩
theorem Y_X12_get : tY yX12_get cX12_get 4 (some .int) 1 := ⟨W_8_122, W_1_14, ⟨by decide +kernel, by decide +kernel⟩, by decide +kernel⟩
theorem dX12_get_0 : decode cX12_get 0 = .ok (.iconst 0, 1) := by decide +kernel
theorem dX12_get_1 : decode cX12_get 1 = .ok (.istore_n 2, 1) := by decide +kernel
theorem dX12_get_2 : decode cX12_get 2 = .ok (.aload_n 0, 1) := by decide +kernel
theorem dX12_get_3 : decode cX12_get 3 = .ok (.iload_n 2, 1) := by decide +kernel
theorem dX12_get_4 : decode cX12_get 4 = .ok (.invokevirtual 236, 3) := by decide +kernel
theorem dX12_get_7 : decode cX12_get 7 = .ok (.ifCond .ne 9, 3) := by decide +kernel
theorem dX12_get_10 : decode cX12_get 10 = .ok (.iinc 2 1, 3) := by decide +kernel
theorem dX12_get_13 : decode cX12_get 13 = .ok (.goto (-11), 3) := by decide +kernel
theorem dX12_get_16 : decode cX12_get 16 = .ok (.aload_n 0, 1) := by decide +kernel
theorem dX12_get_17 : decode cX12_get 17 = .ok (.dup, 1) := by decide +kernel
theorem dX12_get_18 : decode cX12_get 18 = .ok (.getfield 158, 3) := by decide +kernel
theorem dX12_get_21 : decode cX12_get 21 = .ok (.iconst 1, 1) := by decide +kernel
theorem dX12_get_22 : decode cX12_get 22 = .ok (.iadd, 1) := by decide +kernel
theorem dX12_get_23 : decode cX12_get 23 = .ok (.putfield 158, 3) := by decide +kernel
theorem dX12_get_26 : decode cX12_get 26 = .ok (.aload_n 0, 1) := by decide +kernel
theorem dX12_get_27 : decode cX12_get 27 = .ok (.iload_n 2, 1) := by decide +kernel
theorem dX12_get_28 : decode cX12_get 28 = .ok (.iconst 0, 1) := by decide +kernel
theorem dX12_get_29 : decode cX12_get 29 = .ok (.invokestatic 233, 3) := by decide +kernel
theorem dX12_get_32 : decode cX12_get 32 = .ok (.iconst 1, 1) := by decide +kernel
theorem dX12_get_33 : decode cX12_get 33 = .ok (.invokevirtual 30, 3) := by decide +kernel
theorem dX12_get_36 : decode cX12_get 36 = .ok (.aload_n 0, 1) := by decide +kernel
theorem dX12_get_37 : decode cX12_get 37 = .ok (.iload_n 2, 1) := by decide +kernel
theorem dX12_get_38 : decode cX12_get 38 = .ok (.iconst 1, 1) := by decide +kernel
theorem dX12_get_39 : decode cX12_get 39 = .ok (.invokestatic 233, 3) := by decide +kernel
theorem dX12_get_42 : decode cX12_get 42 = .ok (.aload_n 0, 1) := by decide +kernel
theorem dX12_get_43 : decode cX12_get 43 = .ok (.getfield 158, 3) := by decide +kernel
theorem dX12_get_46 : decode cX12_get 46 = .ok (.invokevirtual 30, 3) := by decide +kernel
theorem dX12_get_49 : decode cX12_get 49 = .ok (.aload_n 0, 1) := by decide +kernel
theorem dX12_get_50 : decode cX12_get 50 = .ok (.iconst 1, 1) := by decide +kernel
theorem dX12_get_51 : decode cX12_get 51 = .ok (.invokevirtual 34, 3) := by decide +kernel
theorem dX12_get_54 : decode cX12_get 54 = .ok (.iload_n 1, 1) := by decide +kernel
theorem dX12_get_55 : decode cX12_get 55 = .ok (.ifCond .eq 12, 3) := by decide +kernel
theorem dX12_get_58 : decode cX12_get 58 = .ok (.aload_n 0, 1) := by decide +kernel
theorem dX12_get_59 : decode cX12_get 59 = .ok (.aload_n 0, 1) := by decide +kernel
theorem dX12_get_60 : decode cX12_get 60 = .ok (.iload_n 2, 1) := by decide +kernel
theorem dX12_get_61 : decode cX12_get 61 = .ok (.invokevirtual 240, 3) := by decide +kernel
theorem dX12_get_64 : decode cX12_get 64 = .ok (.invokevirtual 34, 3) := by decide +kernel
theorem dX12_get_67 : decode cX12_get 67 = .ok (.iconst 0, 1) := by decide +kernel
theorem dX12_get_68 : decode cX12_get 68 = .ok (.istore_n 3, 1) := by decide +kernel
theorem dX12_get_69 : decode cX12_get 69 = .ok (.iload_n 3, 1) := by decide +kernel
theorem dX12_get_70 : decode cX12_get 70 = .ok (.sipush 256, 3) := by decide +kernel
theorem dX12_get_73 : decode cX12_get 73 = .ok (.if_icmp .ge 22, 3) := by decide +kernel
theorem dX12_get_76 : decode cX12_get 76 = .ok (.aload_n 0, 1) := by decide +kernel
theorem dX12_get_77 : decode cX12_get 77 = .ok (.getfield 102, 3) := by decide +kernel
theorem dX12_get_80 : decode cX12_get 80 = .ok (.sipush 256, 3) := by decide +kernel
theorem dX12_get_83 : decode cX12_get 83 = .ok (.iload_n 2, 1) := by decide +kernel
theorem dX12_get_84 : decode cX12_get 84 = .ok (.imul, 1) := by decide +kernel
theorem dX12_get_85 : decode cX12_get 85 = .ok (.iload_n 3, 1) := by decide +kernel
theorem dX12_get_86 : decode cX12_get 86 = .ok (.iadd, 1) := by decide +kernel
theorem dX12_get_87 : decode cX12_get 87 = .ok (.iconst 0, 1) := by decide +kernel
theorem dX12_get_88 : decode cX12_get 88 = .ok (.bastore, 1) := by decide +kernel
theorem dX12_get_89 : decode cX12_get 89 = .ok (.iinc 3 1, 3) := by decide +kernel
theorem dX12_get_92 : decode cX12_get 92 = .ok (.goto (-23), 3) := by decide +kernel
theorem dX12_get_95 : decode cX12_get 95 = .ok (.aload_n 0, 1) := by decide +kernel
theorem dX12_get_96 : decode cX12_get 96 = .ok (.getfield 244, 3) := by decide +kernel
theorem dX12_get_99 : decode cX12_get 99 = .ok (.iload_n 2, 1) := by decide +kernel
theorem dX12_get_100 : decode cX12_get 100 = .ok (.iconst 0, 1) := by decide +kernel
theorem dX12_get_101 : decode cX12_get 101 = .ok (.bastore, 1) := by decide +kernel
theorem dX12_get_102 : decode cX12_get 102 = .ok (.iload_n 2, 1) := by decide +kernel
theorem dX12_get_103 : decode cX12_get 103 = .ok (.ireturn, 1) := by decide +kernel
def L_X12_get_69 (b0 fu : Nat)  : Nat → Nat → Int32 → Int32 → tM → Option ((Int32) × tM)
  | 0, _, _, _, _ => none
  | n + 1, x0, x2, x3, σ => ltb (L_X12_get_69 b0 fu  n) (fun rc69 => if (256) ≤ (x3) then ckO b0 (σ) (x0) 11 (osm (tA (σ) (x0) 23) (fun a34 => ckR b0 (σ) (a34) 2 (fun n38 => ckI (x2) (n38) (some (x2, sI (σ) (a34) ((x2).toNatClampNeg) (vp_nar .boolean ((0 : Int32)))))))) else ckO b0 (σ) (x0) 11 (osm (tA (σ) (x0) 22) (fun a42 => ckR b0 (σ) (a42) 1 (fun n46 => ckI (((256) * (x2)) + (x3)) (n46) (ltb ((x3) + Int32.ofInt 1) (fun y48 => rc69 (x0) (x2) (y48) (sI (σ) (a42) ((((256) * (x2)) + (x3)).toNatClampNeg) (vp_nar .byte ((0 : Int32))))))))))
def J_X12_get_67 (b0 fu : Nat)  (x0 : Nat) (x2 : Int32) (σ : tM) : Option ((Int32) × tM) := L_X12_get_69 b0 fu  (fu) (x0) (x2) (0) (σ)
def L_X12_get_2 (b0 fu : Nat)  : Nat → Nat → Int32 → Int32 → tM → Option ((Int32) × tM)
  | 0, _, _, _, _ => none
  | n + 1, x0, x1, x2, σ => ltb (L_X12_get_2 b0 fu  n) (fun rc2 => ckO b0 (σ) (x0) 11 (cll (m_X12_isFree b0 fu (x0) (x2) (σ)) (fun v3 ρ4 => if (v3) = (0) then ltb ((x2) + Int32.ofInt 1) (fun y59 => rc2 (x0) (x1) (y59) (ρ4)) else ckO b0 (ρ4) (x0) 11 (cll (m_X12_room b0 fu (x2) (0) (sI (ρ4) (x0) 34 ((tI (ρ4) (x0) 34) + (1)))) (fun v9 ρ10 => ckO b0 (ρ10) (x0) 11 (cll (m_X12_put b0 fu (x0) (v9) (1) (ρ10)) (fun v14 ρ15 => cll (m_X12_room b0 fu (x2) (1) (ρ15)) (fun v17 ρ18 => ckO b0 (ρ18) (x0) 11 (cll (m_X12_put b0 fu (x0) (v17) (tI (ρ18) (x0) 34) (ρ18)) (fun v22 ρ23 => ckO b0 (ρ23) (x0) 11 (cll (m_X12_touch b0 fu (x0) (1) (ρ23)) (fun v27 ρ28 => if (x1) = (0) then J_X12_get_67 b0 fu   (x0) (x2) (ρ28) else ckO b0 (ρ28) (x0) 11 (cll (m_X12_numberOf b0 fu (x0) (x2) (ρ28)) (fun v51 ρ52 => ckO b0 (ρ52) (x0) 11 (cll (m_X12_touch b0 fu (x0) (v51) (ρ52)) (fun v56 ρ57 => J_X12_get_67 b0 fu   (x0) (x2) (ρ57)))))))))))))))))
def m_X12_get (b0 fu : Nat) (a0 : Nat) (p0 : Int32) (σ : tM) : Option ((Int32) × tM) := grw σ (L_X12_get_2 b0 fu  (fu) (a0) (p0) (0) (σ))
set_option maxRecDepth 100000 in
set_option maxHeartbeats 1000000 in
theorem l_X12_get_69 {p : Program} {l : Launch} {e : Env} {s : State} {m : MethodId} {args : Array Value} {below : List Frame} {meth : Method} {c : Code} {D : va_G} {aC : Nat → ClassId} {b0 fu : Nat} {σ0 τ : tM} {v : Int32}  (C : tCx p l s m args meth c yX12_get.cls cX12_get 4 (some .int) D aC b0 σ0) (htab : ∀ x ∈ c.exceptionTable.toList, False) (hin : meth.name = yX12_get.name)  : ∀ (n : Nat) (x0 : Nat) (x2 : Int32) (x3 : Int32) (σ : tM), L_X12_get_69 b0 fu  n x0 x2 x3 σ = some (v, τ) → tX p l e s m args below meth c 4 3 70 D aC b0 σ0 (.inl (some (.int v))) τ 69 [(0, .ref (x0)), (2, .int (x2)), (3, .int (x3))] [] σ := by
  intro n
  induction n with
  | zero => intro x0 x2 x3 σ hm; unfold L_X12_get_69 at hm; cases hm
  | succ n ih =>
    intro x0 x2 x3 σ hm
    unfold L_X12_get_69 at hm
    obtain ⟨rc69, hrc⟩ : ∃ z, z = L_X12_get_69 b0 fu  n := ⟨_, rfl⟩
    replace hm := ltb_e hm hrc
    rw [← hrc] at ih
    have hrc69 := ih
    clear ih hrc
    refine zx_iload_n C dX12_get_69 2 rfl ?_
    refine zx_sipush (v := 256) C dX12_get_70 (by decide) ?_
    refine zx_icmp_ge C 95 dX12_get_73 (by decide) (fun c31 => ?_) (fun c31 => ?_)
    · replace hm := ip_e hm c31
      refine zx_aload_n C dX12_get_95 0 rfl ?_
      obtain ⟨k32, i33, hm⟩ := ckO_e hm
      obtain ⟨a34, h35, hm⟩ := osm_e hm
      refine zx_get (j := 23) C tC_11 k32 i33 ⟨by decide, Or.inl W_7_2⟩ dX12_get_96 (.ref a34) (rf_s h35) ?_
      refine zx_iload_n C dX12_get_99 1 rfl ?_
      refine zx_iconst (v := 0) C dX12_get_100 (by decide) ?_
      obtain ⟨n38, k36, i37, hm⟩ := ckR_e hm
      obtain ⟨h39, hm⟩ := ckI_e hm
      refine zx_zast C k36 i37 h39 dX12_get_101 ?_
      refine zx_iload_n C dX12_get_102 1 rfl ?_
      obtain ⟨rfl, rfl⟩ := ret_e hm
      exact zx_iret C rfl rfl rfl dX12_get_103
    · replace hm := in_e hm c31
      refine zx_aload_n C dX12_get_76 0 rfl ?_
      obtain ⟨k40, i41, hm⟩ := ckO_e hm
      obtain ⟨a42, h43, hm⟩ := osm_e hm
      refine zx_get (j := 22) C tC_11 k40 i41 ⟨by decide, Or.inl W_7_1⟩ dX12_get_77 (.ref a42) (rf_s h43) ?_
      refine zx_sipush (v := 256) C dX12_get_80 (by decide) ?_
      refine zx_iload_n C dX12_get_83 1 rfl ?_
      refine zx_imul C dX12_get_84 ?_
      refine zx_iload_n C dX12_get_85 2 rfl ?_
      refine zx_iadd C dX12_get_86 ?_
      refine zx_iconst (v := 0) C dX12_get_87 (by decide) ?_
      obtain ⟨n46, k44, i45, hm⟩ := ckR_e hm
      obtain ⟨h47, hm⟩ := ckI_e hm
      refine zx_bast C k44 i45 h47 dX12_get_88 ?_
      obtain ⟨y48, hy48⟩ : ∃ z : Int32, z = (x3) + Int32.ofInt 1 := ⟨_, rfl⟩
      replace hm := ltb_e hm hy48
      refine zx_iinc C [(3, .int (y48)), (0, .ref (x0)), (2, .int (x2))] dX12_get_89 2 rfl hy48.symm (by decide) rfl ?_
      refine zx_goto C 69 dX12_get_92 (by decide) ?_
      exact zx_lv [1, 2, 0] [(0, .ref (x0)), (2, .int (x2)), (3, .int (y48))] rfl (hrc69 _ _ _ _ hm)
set_option maxRecDepth 100000 in
set_option maxHeartbeats 1000000 in
theorem j_X12_get_67 {p : Program} {l : Launch} {e : Env} {s : State} {m : MethodId} {args : Array Value} {below : List Frame} {meth : Method} {c : Code} {D : va_G} {aC : Nat → ClassId} {b0 fu : Nat} {σ0 τ : tM} {v : Int32}  (C : tCx p l s m args meth c yX12_get.cls cX12_get 4 (some .int) D aC b0 σ0) (htab : ∀ x ∈ c.exceptionTable.toList, False) (hin : meth.name = yX12_get.name)  {x0 : Nat} {x2 : Int32} {σ : tM} (hm : J_X12_get_67 b0 fu  x0 x2 σ = some (v, τ)) : tX p l e s m args below meth c 4 3 70 D aC b0 σ0 (.inl (some (.int v))) τ 67 [(0, .ref (x0)), (2, .int (x2))] [] σ := by
  unfold J_X12_get_67 at hm
  refine zx_iconst (v := 0) C dX12_get_67 (by decide) ?_
  refine zx_istore_n C [(3, .int (0)), (0, .ref (x0)), (2, .int (x2))] dX12_get_68 rfl (by decide) rfl ?_
  exact zx_lv [1, 2, 0] [(0, .ref (x0)), (2, .int (x2)), (3, .int (0))] rfl (l_X12_get_69 C htab hin  _ _ _ _ _ hm)
set_option maxRecDepth 100000 in
set_option maxHeartbeats 1000000 in
theorem l_X12_get_2 {p : Program} {l : Launch} {e : Env} {s : State} {m : MethodId} {args : Array Value} {below : List Frame} {meth : Method} {c : Code} {D : va_G} {aC : Nat → ClassId} {b0 fu : Nat} {σ0 τ : tM} {v : Int32}  (C : tCx p l s m args meth c yX12_get.cls cX12_get 4 (some .int) D aC b0 σ0) (htab : ∀ x ∈ c.exceptionTable.toList, False) (hin : meth.name = yX12_get.name)  : ∀ (n : Nat) (x0 : Nat) (x1 : Int32) (x2 : Int32) (σ : tM), L_X12_get_2 b0 fu  n x0 x1 x2 σ = some (v, τ) → tX p l e s m args below meth c 4 3 70 D aC b0 σ0 (.inl (some (.int v))) τ 2 [(0, .ref (x0)), (1, .int (x1)), (2, .int (x2))] [] σ := by
  intro n
  induction n with
  | zero => intro x0 x1 x2 σ hm; unfold L_X12_get_2 at hm; cases hm
  | succ n ih =>
    intro x0 x1 x2 σ hm
    unfold L_X12_get_2 at hm
    obtain ⟨rc2, hrc⟩ : ∃ z, z = L_X12_get_2 b0 fu  n := ⟨_, rfl⟩
    replace hm := ltb_e hm hrc
    rw [← hrc] at ih
    have hrc2 := ih
    clear ih hrc
    refine zx_aload_n C dX12_get_2 0 rfl ?_
    refine zx_iload_n C dX12_get_3 2 rfl ?_
    obtain ⟨k1, i2, hm⟩ := ckO_e hm
    obtain ⟨v3, ρ4, h5, hm⟩ := cll_e hm
    refine zx_callV (σ := σ) C [.int (x2)] tC_11 k1 i2 Y_X12_isFree W_8_95 W_8_97 Wp_93 (c_X12_isFree h5) (by decide) (by decide) rfl (Nat.le_of_ble_eq_true rfl) dX12_get_4 rfl ?_
    refine zx_if_ne C 16 dX12_get_7 (by decide) (fun c6 => ?_) (fun c6 => ?_)
    · replace hm := in_e hm c6
      refine zx_aload_n C dX12_get_16 0 rfl ?_
      refine zx_dup C dX12_get_17 rfl ?_
      obtain ⟨k7, i8, hm⟩ := ckO_e hm
      refine zx_get (j := 34) C tC_11 k7 i8 ⟨by decide, Or.inl W_7_13⟩ dX12_get_18 (.int (tI (ρ4) (x0) 34)) rfl ?_
      refine zx_iconst (v := 1) C dX12_get_21 (by decide) ?_
      refine zx_iadd C dX12_get_22 ?_
      refine zx_put (j := 34) (ρ := sI (ρ4) (x0) 34 ((tI (ρ4) (x0) 34) + (1))) C tC_11 k7 i8 ⟨by decide, Or.inl W_7_13⟩ rfl rfl rfl (sI_ok (fun _ => rfl)) dX12_get_23 ?_
      refine zx_aload_n C dX12_get_26 0 rfl ?_
      refine zx_iload_n C dX12_get_27 2 rfl ?_
      refine zx_iconst (v := 0) C dX12_get_28 (by decide) ?_
      obtain ⟨v9, ρ10, h11, hm⟩ := cll_e hm
      refine zx_callS (σ := sI (ρ4) (x0) 34 ((tI (ρ4) (x0) 34) + (1))) C [.int (x2), .int (0)] Y_X12_room W_6_209 W_6_210 (c_X12_room h11) (by decide) (by decide) rfl (Nat.le_of_ble_eq_true rfl) dX12_get_29 rfl ?_
      refine zx_iconst (v := 1) C dX12_get_32 (by decide) ?_
      obtain ⟨k12, i13, hm⟩ := ckO_e hm
      obtain ⟨v14, ρ15, h16, hm⟩ := cll_e hm
      refine zx_callV (σ := ρ10) C [.int (v9), .int (1)] tC_11 k12 i13 Y_X12_put W_8_103 W_8_105 Wp_95 (c_X12_put h16) (by decide) (by decide) rfl (Nat.le_of_ble_eq_true rfl) dX12_get_33 rfl ?_
      refine zx_aload_n C dX12_get_36 0 rfl ?_
      refine zx_iload_n C dX12_get_37 2 rfl ?_
      refine zx_iconst (v := 1) C dX12_get_38 (by decide) ?_
      obtain ⟨v17, ρ18, h19, hm⟩ := cll_e hm
      refine zx_callS (σ := ρ15) C [.int (x2), .int (1)] Y_X12_room W_6_209 W_6_210 (c_X12_room h19) (by decide) (by decide) rfl (Nat.le_of_ble_eq_true rfl) dX12_get_39 rfl ?_
      refine zx_aload_n C dX12_get_42 0 rfl ?_
      obtain ⟨k20, i21, hm⟩ := ckO_e hm
      refine zx_get (j := 34) C tC_11 k20 i21 ⟨by decide, Or.inl W_7_13⟩ dX12_get_43 (.int (tI (ρ18) (x0) 34)) rfl ?_
      obtain ⟨v22, ρ23, h24, hm⟩ := cll_e hm
      refine zx_callV (σ := ρ18) C [.int (v17), .int (tI (ρ18) (x0) 34)] tC_11 k20 i21 Y_X12_put W_8_103 W_8_105 Wp_95 (c_X12_put h24) (by decide) (by decide) rfl (Nat.le_of_ble_eq_true rfl) dX12_get_46 rfl ?_
      refine zx_aload_n C dX12_get_49 0 rfl ?_
      refine zx_iconst (v := 1) C dX12_get_50 (by decide) ?_
      obtain ⟨k25, i26, hm⟩ := ckO_e hm
      obtain ⟨v27, ρ28, h29, hm⟩ := cll_e hm
      refine zx_callV (σ := ρ23) C [.int (1)] tC_11 k25 i26 Y_X12_touch W_8_107 W_8_109 Wp_96 (c_X12_touch h29) (by decide) (by decide) rfl (Nat.le_of_ble_eq_true rfl) dX12_get_51 rfl ?_
      refine zx_iload_n C dX12_get_54 1 rfl ?_
      refine zx_if_eq C 67 dX12_get_55 (by decide) (fun c30 => ?_) (fun c30 => ?_)
      · replace hm := ip_e hm c30
        exact zx_lv [0, 2] [(0, .ref (x0)), (2, .int (x2))] rfl (j_X12_get_67 C htab hin    hm)
      · replace hm := in_e hm c30
        refine zx_aload_n C dX12_get_58 0 rfl ?_
        refine zx_aload_n C dX12_get_59 0 rfl ?_
        refine zx_iload_n C dX12_get_60 2 rfl ?_
        obtain ⟨k49, i50, hm⟩ := ckO_e hm
        obtain ⟨v51, ρ52, h53, hm⟩ := cll_e hm
        refine zx_callV (σ := ρ28) C [.int (x2)] tC_11 k49 i50 Y_X12_numberOf W_8_123 W_8_125 Wp_100 (c_X12_numberOf h53) (by decide) (by decide) rfl (Nat.le_of_ble_eq_true rfl) dX12_get_61 rfl ?_
        obtain ⟨k54, i55, hm⟩ := ckO_e hm
        obtain ⟨v56, ρ57, h58, hm⟩ := cll_e hm
        refine zx_callV (σ := ρ52) C [.int (v51)] tC_11 k54 i55 Y_X12_touch W_8_107 W_8_109 Wp_96 (c_X12_touch h58) (by decide) (by decide) rfl (Nat.le_of_ble_eq_true rfl) dX12_get_64 rfl ?_
        exact zx_lv [0, 2] [(0, .ref (x0)), (2, .int (x2))] rfl (j_X12_get_67 C htab hin    hm)
    · replace hm := ip_e hm c6
      obtain ⟨y59, hy59⟩ : ∃ z : Int32, z = (x2) + Int32.ofInt 1 := ⟨_, rfl⟩
      replace hm := ltb_e hm hy59
      refine zx_iinc C [(2, .int (y59)), (0, .ref (x0)), (1, .int (x1))] dX12_get_10 2 rfl hy59.symm (by decide) rfl ?_
      refine zx_goto C 2 dX12_get_13 (by decide) ?_
      exact zx_lv [1, 2, 0] [(0, .ref (x0)), (1, .int (x1)), (2, .int (y59))] rfl (hrc2 _ _ _ _ hm)
set_option maxRecDepth 100000 in
set_option maxHeartbeats 1000000 in
theorem c_X12_get {l : Launch} {D : va_G} {aC : Nat → ClassId} {b0 fu : Nat} {a0 : Nat} {p0 : Int32} {σ τ : tM} {v : Int32} (hm : m_X12_get b0 fu a0 p0 σ = some (v, τ)) : tMt l D aC b0 yX12_get (Cond.code yX12_get cX12_get 4 (some .int)) 3 70 [.ref (a0), .int (p0)] σ (.inl (some (.int v))) τ := by
  unfold m_X12_get at hm
  obtain ⟨hg, hm⟩ := grw_e hm
  refine tMt_of (n := 0) rfl (Nat.le_of_ble_eq_true rfl) hg ?_
  intro p e s m below meth c C htab hin
  refine zx_lv [0, 1] [(0, .ref (a0)), (1, .int (p0))] rfl ?_
  refine zx_iconst (v := 0) C dX12_get_0 (by decide) ?_
  refine zx_istore_n C [(2, .int (0)), (0, .ref (a0)), (1, .int (p0))] dX12_get_1 rfl (by decide) rfl ?_
  exact zx_lv [1, 2, 0] [(0, .ref (a0)), (1, .int (p0)), (2, .int (0))] rfl (l_X12_get_2 C htab hin  _ _ _ _ _ hm)
abbrev cX12_free : ByteArray := prog_13_method_32_code
def yX12_free : MethodName := ⟨"SyncTreeModel", "free", "(IZ)V"⟩
theorem Y_X12_free : tY yX12_free cX12_free 3 none 2 := ⟨W_8_174, W_1_14, ⟨by decide +kernel, by decide +kernel⟩, by decide +kernel⟩
theorem dX12_free_0 : decode cX12_free 0 = .ok (.aload_n 0, 1) := by decide +kernel
theorem dX12_free_1 : decode cX12_free 1 = .ok (.iload_n 1, 1) := by decide +kernel
theorem dX12_free_2 : decode cX12_free 2 = .ok (.iconst 0, 1) := by decide +kernel
theorem dX12_free_3 : decode cX12_free 3 = .ok (.invokestatic 233, 3) := by decide +kernel
theorem dX12_free_6 : decode cX12_free 6 = .ok (.iconst 0, 1) := by decide +kernel
theorem dX12_free_7 : decode cX12_free 7 = .ok (.invokevirtual 30, 3) := by decide +kernel
theorem dX12_free_10 : decode cX12_free 10 = .ok (.aload_n 0, 1) := by decide +kernel
theorem dX12_free_11 : decode cX12_free 11 = .ok (.iconst 1, 1) := by decide +kernel
theorem dX12_free_12 : decode cX12_free 12 = .ok (.invokevirtual 34, 3) := by decide +kernel
theorem dX12_free_15 : decode cX12_free 15 = .ok (.aload_n 0, 1) := by decide +kernel
theorem dX12_free_16 : decode cX12_free 16 = .ok (.getfield 190, 3) := by decide +kernel
theorem dX12_free_19 : decode cX12_free 19 = .ok (.iload_n 1, 1) := by decide +kernel
theorem dX12_free_20 : decode cX12_free 20 = .ok (.iconst 1, 1) := by decide +kernel
theorem dX12_free_21 : decode cX12_free 21 = .ok (.iastore, 1) := by decide +kernel
theorem dX12_free_22 : decode cX12_free 22 = .ok (.aload_n 0, 1) := by decide +kernel
theorem dX12_free_23 : decode cX12_free 23 = .ok (.getfield 244, 3) := by decide +kernel
theorem dX12_free_26 : decode cX12_free 26 = .ok (.iload_n 1, 1) := by decide +kernel
theorem dX12_free_27 : decode cX12_free 27 = .ok (.iconst 0, 1) := by decide +kernel
theorem dX12_free_28 : decode cX12_free 28 = .ok (.bastore, 1) := by decide +kernel
theorem dX12_free_29 : decode cX12_free 29 = .ok (.iload_n 2, 1) := by decide +kernel
theorem dX12_free_30 : decode cX12_free 30 = .ok (.ifCond .ne 4, 3) := by decide +kernel
theorem dX12_free_33 : decode cX12_free 33 = .ok (.return_, 1) := by decide +kernel
theorem dX12_free_34 : decode cX12_free 34 = .ok (.aload_n 0, 1) := by decide +kernel
theorem dX12_free_35 : decode cX12_free 35 = .ok (.getfield 108, 3) := by decide +kernel
theorem dX12_free_38 : decode cX12_free 38 = .ok (.aload_n 0, 1) := by decide +kernel
theorem dX12_free_39 : decode cX12_free 39 = .ok (.iload_n 1, 1) := by decide +kernel
theorem dX12_free_40 : decode cX12_free 40 = .ok (.invokevirtual 240, 3) := by decide +kernel
theorem dX12_free_43 : decode cX12_free 43 = .ok (.iconst 0, 1) := by decide +kernel
theorem dX12_free_44 : decode cX12_free 44 = .ok (.bastore, 1) := by decide +kernel
theorem dX12_free_45 : decode cX12_free 45 = .ok (.aload_n 0, 1) := by decide +kernel
theorem dX12_free_46 : decode cX12_free 46 = .ok (.getfield 116, 3) := by decide +kernel
theorem dX12_free_49 : decode cX12_free 49 = .ok (.aload_n 0, 1) := by decide +kernel
theorem dX12_free_50 : decode cX12_free 50 = .ok (.iload_n 1, 1) := by decide +kernel
theorem dX12_free_51 : decode cX12_free 51 = .ok (.invokevirtual 240, 3) := by decide +kernel
theorem dX12_free_54 : decode cX12_free 54 = .ok (.iconst 1, 1) := by decide +kernel
theorem dX12_free_55 : decode cX12_free 55 = .ok (.bastore, 1) := by decide +kernel
theorem dX12_free_56 : decode cX12_free 56 = .ok (.return_, 1) := by decide +kernel
def m_X12_free (b0 fu : Nat) (a0 : Nat) (p0 : Int32) (p1 : Int32) (σ : tM) : Option ((Unit) × tM) := grw σ (cll (m_X12_room b0 fu (p0) (0) (σ)) (fun v1 ρ2 => ckO b0 (ρ2) (a0) 11 (cll (m_X12_put b0 fu (a0) (v1) (0) (ρ2)) (fun v6 ρ7 => ckO b0 (ρ7) (a0) 11 (cll (m_X12_touch b0 fu (a0) (1) (ρ7)) (fun v11 ρ12 => ckO b0 (ρ12) (a0) 11 (osm (tA (ρ12) (a0) 24) (fun a16 => ckR b0 (ρ12) (a16) 0 (fun n20 => ckI (p0) (n20) (osm (tA (sI (ρ12) (a16) ((p0).toNatClampNeg) (1)) (a0) 23) (fun a22 => ckR b0 (sI (ρ12) (a16) ((p0).toNatClampNeg) (1)) (a22) 2 (fun n26 => ckI (p0) (n26) (if (p1) = (0) then some ((), sI (sI (ρ12) (a16) ((p0).toNatClampNeg) (1)) (a22) ((p0).toNatClampNeg) (vp_nar .boolean ((0 : Int32)))) else osm (tA (sI (sI (ρ12) (a16) ((p0).toNatClampNeg) (1)) (a22) ((p0).toNatClampNeg) (vp_nar .boolean ((0 : Int32)))) (a0) 26) (fun a29 => cll (m_X12_numberOf b0 fu (a0) (p0) (sI (sI (ρ12) (a16) ((p0).toNatClampNeg) (1)) (a22) ((p0).toNatClampNeg) (vp_nar .boolean ((0 : Int32))))) (fun v31 ρ32 => ckR b0 (ρ32) (a29) 2 (fun n36 => ckI (v31) (n36) (ckO b0 (sI (ρ32) (a29) ((v31).toNatClampNeg) (vp_nar .boolean ((0 : Int32)))) (a0) 11 (osm (tA (sI (ρ32) (a29) ((v31).toNatClampNeg) (vp_nar .boolean ((0 : Int32)))) (a0) 27) (fun a40 => cll (m_X12_numberOf b0 fu (a0) (p0) (sI (ρ32) (a29) ((v31).toNatClampNeg) (vp_nar .boolean ((0 : Int32))))) (fun v42 ρ43 => ckR b0 (ρ43) (a40) 2 (fun n47 => ckI (v42) (n47) (some ((), sI (ρ43) (a40) ((v42).toNatClampNeg) (vp_nar .boolean ((1 : Int32))))))))))))))))))))))))))
set_option maxRecDepth 100000 in
set_option maxHeartbeats 1000000 in
theorem c_X12_free {l : Launch} {D : va_G} {aC : Nat → ClassId} {b0 fu : Nat} {a0 : Nat} {p0 : Int32} {p1 : Int32} {σ τ : tM} {v : Unit} (hm : m_X12_free b0 fu a0 p0 p1 σ = some (v, τ)) : tMt l D aC b0 yX12_free (Cond.code yX12_free cX12_free 3 none) 3 70 [.ref (a0), .int (p0), .int (p1)] σ (.inl none) τ := by
  unfold m_X12_free at hm
  obtain ⟨hg, hm⟩ := grw_e hm
  refine tMt_of (n := 0) rfl (Nat.le_of_ble_eq_true rfl) hg ?_
  intro p e s m below meth c C htab hin
  refine zx_lv [0, 1, 2] [(0, .ref (a0)), (1, .int (p0)), (2, .int (p1))] rfl ?_
  refine zx_aload_n C dX12_free_0 0 rfl ?_
  refine zx_iload_n C dX12_free_1 1 rfl ?_
  refine zx_iconst (v := 0) C dX12_free_2 (by decide) ?_
  obtain ⟨v1, ρ2, h3, hm⟩ := cll_e hm
  refine zx_callS (σ := σ) C [.int (p0), .int (0)] Y_X12_room W_6_209 W_6_210 (c_X12_room h3) (by decide) (by decide) rfl (Nat.le_of_ble_eq_true rfl) dX12_free_3 rfl ?_
  refine zx_iconst (v := 0) C dX12_free_6 (by decide) ?_
  obtain ⟨k4, i5, hm⟩ := ckO_e hm
  obtain ⟨v6, ρ7, h8, hm⟩ := cll_e hm
  refine zx_callV (σ := ρ2) C [.int (v1), .int (0)] tC_11 k4 i5 Y_X12_put W_8_103 W_8_105 Wp_95 (c_X12_put h8) (by decide) (by decide) rfl (Nat.le_of_ble_eq_true rfl) dX12_free_7 rfl ?_
  refine zx_aload_n C dX12_free_10 0 rfl ?_
  refine zx_iconst (v := 1) C dX12_free_11 (by decide) ?_
  obtain ⟨k9, i10, hm⟩ := ckO_e hm
  obtain ⟨v11, ρ12, h13, hm⟩ := cll_e hm
  refine zx_callV (σ := ρ7) C [.int (1)] tC_11 k9 i10 Y_X12_touch W_8_107 W_8_109 Wp_96 (c_X12_touch h13) (by decide) (by decide) rfl (Nat.le_of_ble_eq_true rfl) dX12_free_12 rfl ?_
  refine zx_aload_n C dX12_free_15 0 rfl ?_
  obtain ⟨k14, i15, hm⟩ := ckO_e hm
  obtain ⟨a16, h17, hm⟩ := osm_e hm
  refine zx_get (j := 24) C tC_11 k14 i15 ⟨by decide, Or.inl W_7_3⟩ dX12_free_16 (.ref a16) (rf_s h17) ?_
  refine zx_iload_n C dX12_free_19 1 rfl ?_
  refine zx_iconst (v := 1) C dX12_free_20 (by decide) ?_
  obtain ⟨n20, k18, i19, hm⟩ := ckR_e hm
  obtain ⟨h21, hm⟩ := ckI_e hm
  refine zx_iast C k18 i19 h21 dX12_free_21 ?_
  refine zx_aload_n C dX12_free_22 0 rfl ?_
  obtain ⟨a22, h23, hm⟩ := osm_e hm
  refine zx_get (j := 23) C tC_11 k14 i15 ⟨by decide, Or.inl W_7_2⟩ dX12_free_23 (.ref a22) (rf_s h23) ?_
  refine zx_iload_n C dX12_free_26 1 rfl ?_
  refine zx_iconst (v := 0) C dX12_free_27 (by decide) ?_
  obtain ⟨n26, k24, i25, hm⟩ := ckR_e hm
  obtain ⟨h27, hm⟩ := ckI_e hm
  refine zx_zast C k24 i25 h27 dX12_free_28 ?_
  refine zx_iload_n C dX12_free_29 2 rfl ?_
  refine zx_if_ne C 34 dX12_free_30 (by decide) (fun c28 => ?_) (fun c28 => ?_)
  · replace hm := in_e hm c28
    refine zx_aload_n C dX12_free_34 0 rfl ?_
    obtain ⟨a29, h30, hm⟩ := osm_e hm
    refine zx_get (j := 26) C tC_11 k14 i15 ⟨by decide, Or.inl W_7_5⟩ dX12_free_35 (.ref a29) (rf_s h30) ?_
    refine zx_aload_n C dX12_free_38 0 rfl ?_
    refine zx_iload_n C dX12_free_39 1 rfl ?_
    obtain ⟨v31, ρ32, h33, hm⟩ := cll_e hm
    refine zx_callV (σ := sI (sI (ρ12) (a16) ((p0).toNatClampNeg) (1)) (a22) ((p0).toNatClampNeg) (vp_nar .boolean ((0 : Int32)))) C [.int (p0)] tC_11 k14 i15 Y_X12_numberOf W_8_123 W_8_125 Wp_100 (c_X12_numberOf h33) (by decide) (by decide) rfl (Nat.le_of_ble_eq_true rfl) dX12_free_40 rfl ?_
    refine zx_iconst (v := 0) C dX12_free_43 (by decide) ?_
    obtain ⟨n36, k34, i35, hm⟩ := ckR_e hm
    obtain ⟨h37, hm⟩ := ckI_e hm
    refine zx_zast C k34 i35 h37 dX12_free_44 ?_
    refine zx_aload_n C dX12_free_45 0 rfl ?_
    obtain ⟨k38, i39, hm⟩ := ckO_e hm
    obtain ⟨a40, h41, hm⟩ := osm_e hm
    refine zx_get (j := 27) C tC_11 k38 i39 ⟨by decide, Or.inl W_7_6⟩ dX12_free_46 (.ref a40) (rf_s h41) ?_
    refine zx_aload_n C dX12_free_49 0 rfl ?_
    refine zx_iload_n C dX12_free_50 1 rfl ?_
    obtain ⟨v42, ρ43, h44, hm⟩ := cll_e hm
    refine zx_callV (σ := sI (ρ32) (a29) ((v31).toNatClampNeg) (vp_nar .boolean ((0 : Int32)))) C [.int (p0)] tC_11 k38 i39 Y_X12_numberOf W_8_123 W_8_125 Wp_100 (c_X12_numberOf h44) (by decide) (by decide) rfl (Nat.le_of_ble_eq_true rfl) dX12_free_51 rfl ?_
    refine zx_iconst (v := 1) C dX12_free_54 (by decide) ?_
    obtain ⟨n47, k45, i46, hm⟩ := ckR_e hm
    obtain ⟨h48, hm⟩ := ckI_e hm
    refine zx_zast C k45 i46 h48 dX12_free_55 ?_
    obtain ⟨rfl, rfl⟩ := ret_e hm
    exact zx_vret C rfl rfl rfl dX12_free_56
  · replace hm := ip_e hm c28
    obtain ⟨rfl, rfl⟩ := ret_e hm
    exact zx_vret C rfl rfl rfl dX12_free_33
abbrev cX12_pointer : ByteArray := prog_13_method_33_code
def yX12_pointer : MethodName := ⟨"SyncTreeModel", "pointer", "(II)I"⟩
theorem Y_X12_pointer : tY yX12_pointer cX12_pointer 3 (some .int) 2 := ⟨W_8_71, W_1_14, ⟨by decide +kernel, by decide +kernel⟩, by decide +kernel⟩
theorem dX12_pointer_0 : decode cX12_pointer 0 = .ok (.aload_n 0, 1) := by decide +kernel
theorem dX12_pointer_1 : decode cX12_pointer 1 = .ok (.getfield 13, 3) := by decide +kernel
theorem dX12_pointer_4 : decode cX12_pointer 4 = .ok (.iload_n 1, 1) := by decide +kernel
theorem dX12_pointer_5 : decode cX12_pointer 5 = .ok (.iconst 2, 1) := by decide +kernel
theorem dX12_pointer_6 : decode cX12_pointer 6 = .ok (.iload_n 2, 1) := by decide +kernel
theorem dX12_pointer_7 : decode cX12_pointer 7 = .ok (.iadd, 1) := by decide +kernel
theorem dX12_pointer_8 : decode cX12_pointer 8 = .ok (.invokestatic 233, 3) := by decide +kernel
theorem dX12_pointer_11 : decode cX12_pointer 11 = .ok (.iaload, 1) := by decide +kernel
theorem dX12_pointer_12 : decode cX12_pointer 12 = .ok (.ireturn, 1) := by decide +kernel
def m_X12_pointer (b0 fu : Nat) (a0 : Nat) (p0 : Int32) (p1 : Int32) (σ : tM) : Option ((Int32) × tM) := grw σ (ckO b0 (σ) (a0) 11 (osm (tA (σ) (a0) 1) (fun a3 => cll (m_X12_room b0 fu (p0) ((2) + (p1)) (σ)) (fun v5 ρ6 => ckR b0 (ρ6) (a3) 0 (fun n10 => ckI (v5) (n10) (some (tI (ρ6) (a3) ((v5).toNatClampNeg), ρ6)))))))
set_option maxRecDepth 100000 in
set_option maxHeartbeats 1000000 in
theorem c_X12_pointer {l : Launch} {D : va_G} {aC : Nat → ClassId} {b0 fu : Nat} {a0 : Nat} {p0 : Int32} {p1 : Int32} {σ τ : tM} {v : Int32} (hm : m_X12_pointer b0 fu a0 p0 p1 σ = some (v, τ)) : tMt l D aC b0 yX12_pointer (Cond.code yX12_pointer cX12_pointer 3 (some .int)) 1 21 [.ref (a0), .int (p0), .int (p1)] σ (.inl (some (.int v))) τ := by
  unfold m_X12_pointer at hm
  obtain ⟨hg, hm⟩ := grw_e hm
  refine tMt_of (n := 0) rfl (Nat.le_of_ble_eq_true rfl) hg ?_
  intro p e s m below meth c C htab hin
  refine zx_lv [0, 1, 2] [(0, .ref (a0)), (1, .int (p0)), (2, .int (p1))] rfl ?_
  refine zx_aload_n C dX12_pointer_0 0 rfl ?_
  obtain ⟨k1, i2, hm⟩ := ckO_e hm
  obtain ⟨a3, h4, hm⟩ := osm_e hm
  refine zx_get (j := 1) C tC_11 k1 i2 ⟨by decide, Or.inl W_6_221⟩ dX12_pointer_1 (.ref a3) (rf_s h4) ?_
  refine zx_iload_n C dX12_pointer_4 1 rfl ?_
  refine zx_iconst (v := 2) C dX12_pointer_5 (by decide) ?_
  refine zx_iload_n C dX12_pointer_6 2 rfl ?_
  refine zx_iadd C dX12_pointer_7 ?_
  obtain ⟨v5, ρ6, h7, hm⟩ := cll_e hm
  refine zx_callS (σ := σ) C [.int (p0), .int ((2) + (p1))] Y_X12_room W_6_209 W_6_210 (c_X12_room h7) (by decide) (by decide) rfl (Nat.le_of_ble_eq_true rfl) dX12_pointer_8 rfl ?_
  obtain ⟨n10, k8, i9, hm⟩ := ckR_e hm
  obtain ⟨h11, hm⟩ := ckI_e hm
  refine zx_iald C k8 i9 h11 dX12_pointer_11 ?_
  obtain ⟨rfl, rfl⟩ := ret_e hm
  exact zx_iret C rfl rfl rfl dX12_pointer_12
abbrev cX12_putPointer : ByteArray := prog_13_method_34_code
def yX12_putPointer : MethodName := ⟨"SyncTreeModel", "putPointer", "(III)V"⟩
theorem Y_X12_putPointer : tY yX12_putPointer cX12_putPointer 4 none 3 := ⟨W_8_130, W_1_14, ⟨by decide +kernel, by decide +kernel⟩, by decide +kernel⟩
theorem dX12_putPointer_0 : decode cX12_putPointer 0 = .ok (.aload_n 0, 1) := by decide +kernel
theorem dX12_putPointer_1 : decode cX12_putPointer 1 = .ok (.iload_n 1, 1) := by decide +kernel
theorem dX12_putPointer_2 : decode cX12_putPointer 2 = .ok (.iconst 2, 1) := by decide +kernel
theorem dX12_putPointer_3 : decode cX12_putPointer 3 = .ok (.iload_n 2, 1) := by decide +kernel
theorem dX12_putPointer_4 : decode cX12_putPointer 4 = .ok (.iadd, 1) := by decide +kernel
theorem dX12_putPointer_5 : decode cX12_putPointer 5 = .ok (.invokestatic 233, 3) := by decide +kernel
theorem dX12_putPointer_8 : decode cX12_putPointer 8 = .ok (.iload_n 3, 1) := by decide +kernel
theorem dX12_putPointer_9 : decode cX12_putPointer 9 = .ok (.invokevirtual 30, 3) := by decide +kernel
theorem dX12_putPointer_12 : decode cX12_putPointer 12 = .ok (.aload_n 0, 1) := by decide +kernel
theorem dX12_putPointer_13 : decode cX12_putPointer 13 = .ok (.aload_n 0, 1) := by decide +kernel
theorem dX12_putPointer_14 : decode cX12_putPointer 14 = .ok (.iload_n 1, 1) := by decide +kernel
theorem dX12_putPointer_15 : decode cX12_putPointer 15 = .ok (.invokevirtual 240, 3) := by decide +kernel
theorem dX12_putPointer_18 : decode cX12_putPointer 18 = .ok (.invokevirtual 34, 3) := by decide +kernel
theorem dX12_putPointer_21 : decode cX12_putPointer 21 = .ok (.return_, 1) := by decide +kernel
def m_X12_putPointer (b0 fu : Nat) (a0 : Nat) (p0 : Int32) (p1 : Int32) (p2 : Int32) (σ : tM) : Option ((Unit) × tM) := grw σ (cll (m_X12_room b0 fu (p0) ((2) + (p1)) (σ)) (fun v1 ρ2 => ckO b0 (ρ2) (a0) 11 (cll (m_X12_put b0 fu (a0) (v1) (p2) (ρ2)) (fun v6 ρ7 => ckO b0 (ρ7) (a0) 11 (cll (m_X12_numberOf b0 fu (a0) (p0) (ρ7)) (fun v11 ρ12 => ckO b0 (ρ12) (a0) 11 (cll (m_X12_touch b0 fu (a0) (v11) (ρ12)) (fun v16 ρ17 => some ((), ρ17)))))))))
set_option maxRecDepth 100000 in
set_option maxHeartbeats 1000000 in
theorem c_X12_putPointer {l : Launch} {D : va_G} {aC : Nat → ClassId} {b0 fu : Nat} {a0 : Nat} {p0 : Int32} {p1 : Int32} {p2 : Int32} {σ τ : tM} {v : Unit} (hm : m_X12_putPointer b0 fu a0 p0 p1 p2 σ = some (v, τ)) : tMt l D aC b0 yX12_putPointer (Cond.code yX12_putPointer cX12_putPointer 4 none) 3 70 [.ref (a0), .int (p0), .int (p1), .int (p2)] σ (.inl none) τ := by
  unfold m_X12_putPointer at hm
  obtain ⟨hg, hm⟩ := grw_e hm
  refine tMt_of (n := 0) rfl (Nat.le_of_ble_eq_true rfl) hg ?_
  intro p e s m below meth c C htab hin
  refine zx_lv [0, 1, 2, 3] [(0, .ref (a0)), (1, .int (p0)), (2, .int (p1)), (3, .int (p2))] rfl ?_
  refine zx_aload_n C dX12_putPointer_0 0 rfl ?_
  refine zx_iload_n C dX12_putPointer_1 1 rfl ?_
  refine zx_iconst (v := 2) C dX12_putPointer_2 (by decide) ?_
  refine zx_iload_n C dX12_putPointer_3 2 rfl ?_
  refine zx_iadd C dX12_putPointer_4 ?_
  obtain ⟨v1, ρ2, h3, hm⟩ := cll_e hm
  refine zx_callS (σ := σ) C [.int (p0), .int ((2) + (p1))] Y_X12_room W_6_209 W_6_210 (c_X12_room h3) (by decide) (by decide) rfl (Nat.le_of_ble_eq_true rfl) dX12_putPointer_5 rfl ?_
  refine zx_iload_n C dX12_putPointer_8 3 rfl ?_
  obtain ⟨k4, i5, hm⟩ := ckO_e hm
  obtain ⟨v6, ρ7, h8, hm⟩ := cll_e hm
  refine zx_callV (σ := ρ2) C [.int (v1), .int (p2)] tC_11 k4 i5 Y_X12_put W_8_103 W_8_105 Wp_95 (c_X12_put h8) (by decide) (by decide) rfl (Nat.le_of_ble_eq_true rfl) dX12_putPointer_9 rfl ?_
  refine zx_aload_n C dX12_putPointer_12 0 rfl ?_
  refine zx_aload_n C dX12_putPointer_13 0 rfl ?_
  refine zx_iload_n C dX12_putPointer_14 1 rfl ?_
  obtain ⟨k9, i10, hm⟩ := ckO_e hm
  obtain ⟨v11, ρ12, h13, hm⟩ := cll_e hm
  refine zx_callV (σ := ρ7) C [.int (p0)] tC_11 k9 i10 Y_X12_numberOf W_8_123 W_8_125 Wp_100 (c_X12_numberOf h13) (by decide) (by decide) rfl (Nat.le_of_ble_eq_true rfl) dX12_putPointer_15 rfl ?_
  obtain ⟨k14, i15, hm⟩ := ckO_e hm
  obtain ⟨v16, ρ17, h18, hm⟩ := cll_e hm
  refine zx_callV (σ := ρ12) C [.int (v11)] tC_11 k14 i15 Y_X12_touch W_8_107 W_8_109 Wp_96 (c_X12_touch h18) (by decide) (by decide) rfl (Nat.le_of_ble_eq_true rfl) dX12_putPointer_18 rfl ?_
  obtain ⟨rfl, rfl⟩ := ret_e hm
  exact zx_vret C rfl rfl rfl dX12_putPointer_21
abbrev cX12_leafOf : ByteArray := prog_13_method_35_code
def yX12_leafOf : MethodName := ⟨"SyncTreeModel", "leafOf", "(II)I"⟩
theorem Y_X12_leafOf : tY yX12_leafOf cX12_leafOf 4 (some .int) 2 := ⟨W_8_67, W_1_14, ⟨by decide +kernel, by decide +kernel⟩, by decide +kernel⟩
theorem dX12_leafOf_0 : decode cX12_leafOf 0 = .ok (.iload_n 2, 1) := by decide +kernel
theorem dX12_leafOf_1 : decode cX12_leafOf 1 = .ok (.bipush 40, 2) := by decide +kernel
theorem dX12_leafOf_3 : decode cX12_leafOf 3 = .ok (.if_icmp .ge 11, 3) := by decide +kernel
theorem dX12_leafOf_6 : decode cX12_leafOf 6 = .ok (.aload_n 0, 1) := by decide +kernel
theorem dX12_leafOf_7 : decode cX12_leafOf 7 = .ok (.iload_n 1, 1) := by decide +kernel
theorem dX12_leafOf_8 : decode cX12_leafOf 8 = .ok (.bipush 93, 2) := by decide +kernel
theorem dX12_leafOf_10 : decode cX12_leafOf 10 = .ok (.invokevirtual 247, 3) := by decide +kernel
theorem dX12_leafOf_13 : decode cX12_leafOf 13 = .ok (.ireturn, 1) := by decide +kernel
theorem dX12_leafOf_14 : decode cX12_leafOf 14 = .ok (.aload_n 0, 1) := by decide +kernel
theorem dX12_leafOf_15 : decode cX12_leafOf 15 = .ok (.iload_n 1, 1) := by decide +kernel
theorem dX12_leafOf_16 : decode cX12_leafOf 16 = .ok (.bipush 94, 2) := by decide +kernel
theorem dX12_leafOf_18 : decode cX12_leafOf 18 = .ok (.invokevirtual 247, 3) := by decide +kernel
theorem dX12_leafOf_21 : decode cX12_leafOf 21 = .ok (.istore_n 3, 1) := by decide +kernel
theorem dX12_leafOf_22 : decode cX12_leafOf 22 = .ok (.iload_n 3, 1) := by decide +kernel
theorem dX12_leafOf_23 : decode cX12_leafOf 23 = .ok (.ifCond .ne 7, 3) := by decide +kernel
theorem dX12_leafOf_26 : decode cX12_leafOf 26 = .ok (.iconst 0, 1) := by decide +kernel
theorem dX12_leafOf_27 : decode cX12_leafOf 27 = .ok (.goto 17, 3) := by decide +kernel
theorem dX12_leafOf_30 : decode cX12_leafOf 30 = .ok (.aload_n 0, 1) := by decide +kernel
theorem dX12_leafOf_31 : decode cX12_leafOf 31 = .ok (.iload_n 3, 1) := by decide +kernel
theorem dX12_leafOf_32 : decode cX12_leafOf 32 = .ok (.iconst 1, 1) := by decide +kernel
theorem dX12_leafOf_33 : decode cX12_leafOf 33 = .ok (.isub, 1) := by decide +kernel
theorem dX12_leafOf_34 : decode cX12_leafOf 34 = .ok (.iload_n 2, 1) := by decide +kernel
theorem dX12_leafOf_35 : decode cX12_leafOf 35 = .ok (.bipush 40, 2) := by decide +kernel
theorem dX12_leafOf_37 : decode cX12_leafOf 37 = .ok (.isub, 1) := by decide +kernel
theorem dX12_leafOf_38 : decode cX12_leafOf 38 = .ok (.bipush 32, 2) := by decide +kernel
theorem dX12_leafOf_40 : decode cX12_leafOf 40 = .ok (.idiv, 1) := by decide +kernel
theorem dX12_leafOf_41 : decode cX12_leafOf 41 = .ok (.invokevirtual 250, 3) := by decide +kernel
theorem dX12_leafOf_44 : decode cX12_leafOf 44 = .ok (.ireturn, 1) := by decide +kernel
def J_X12_leafOf_44 (b0 fu : Nat)  (s0 : Int32) (σ : tM) : Option ((Int32) × tM) := some (s0, σ)
def m_X12_leafOf (b0 fu : Nat) (a0 : Nat) (p0 : Int32) (p1 : Int32) (σ : tM) : Option ((Int32) × tM) := grw σ (if (40) ≤ (p1) then ckO b0 (σ) (a0) 11 (cll (m_X12_node b0 fu (a0) (p0) (94) (σ)) (fun v4 ρ5 => if (v4) = (0) then J_X12_leafOf_44 b0 fu   (0) (ρ5) else ckO b0 (ρ5) (a0) 11 (cll (m_X12_pointer b0 fu (a0) ((v4) - (1)) (((p1) - (40)) / (32)) (ρ5)) (fun v10 ρ11 => J_X12_leafOf_44 b0 fu   (v10) (ρ11))))) else ckO b0 (σ) (a0) 11 (cll (m_X12_node b0 fu (a0) (p0) (93) (σ)) (fun v16 ρ17 => some (v16, ρ17))))
set_option maxRecDepth 100000 in
set_option maxHeartbeats 1000000 in
theorem j_X12_leafOf_44 {p : Program} {l : Launch} {e : Env} {s : State} {m : MethodId} {args : Array Value} {below : List Frame} {meth : Method} {c : Code} {D : va_G} {aC : Nat → ClassId} {b0 fu : Nat} {σ0 τ : tM} {v : Int32}  (C : tCx p l s m args meth c yX12_leafOf.cls cX12_leafOf 4 (some .int) D aC b0 σ0) (htab : ∀ x ∈ c.exceptionTable.toList, False) (hin : meth.name = yX12_leafOf.name)  {s0 : Int32} {σ : tM} (hm : J_X12_leafOf_44 b0 fu  s0 σ = some (v, τ)) : tX p l e s m args below meth c 4 2 43 D aC b0 σ0 (.inl (some (.int v))) τ 44 [] [.int (s0)] σ := by
  unfold J_X12_leafOf_44 at hm
  obtain ⟨rfl, rfl⟩ := ret_e hm
  exact zx_iret C rfl rfl rfl dX12_leafOf_44
set_option maxRecDepth 100000 in
set_option maxHeartbeats 1000000 in
theorem c_X12_leafOf {l : Launch} {D : va_G} {aC : Nat → ClassId} {b0 fu : Nat} {a0 : Nat} {p0 : Int32} {p1 : Int32} {σ τ : tM} {v : Int32} (hm : m_X12_leafOf b0 fu a0 p0 p1 σ = some (v, τ)) : tMt l D aC b0 yX12_leafOf (Cond.code yX12_leafOf cX12_leafOf 4 (some .int)) 2 43 [.ref (a0), .int (p0), .int (p1)] σ (.inl (some (.int v))) τ := by
  unfold m_X12_leafOf at hm
  obtain ⟨hg, hm⟩ := grw_e hm
  refine tMt_of (n := 0) rfl (Nat.le_of_ble_eq_true rfl) hg ?_
  intro p e s m below meth c C htab hin
  refine zx_lv [0, 1, 2] [(0, .ref (a0)), (1, .int (p0)), (2, .int (p1))] rfl ?_
  refine zx_iload_n C dX12_leafOf_0 2 rfl ?_
  refine zx_bipush (v := 40) C dX12_leafOf_1 (by decide) ?_
  refine zx_icmp_ge C 14 dX12_leafOf_3 (by decide) (fun c1 => ?_) (fun c1 => ?_)
  · replace hm := ip_e hm c1
    refine zx_aload_n C dX12_leafOf_14 0 rfl ?_
    refine zx_iload_n C dX12_leafOf_15 1 rfl ?_
    refine zx_bipush (v := 94) C dX12_leafOf_16 (by decide) ?_
    obtain ⟨k2, i3, hm⟩ := ckO_e hm
    obtain ⟨v4, ρ5, h6, hm⟩ := cll_e hm
    refine zx_callV (σ := σ) C [.int (p0), .int (94)] tC_11 k2 i3 Y_X12_node W_8_40 W_8_42 Wp_80 (c_X12_node h6) (by decide) (by decide) rfl (Nat.le_of_ble_eq_true rfl) dX12_leafOf_18 rfl ?_
    refine zx_istore_n C [(3, .int (v4)), (0, .ref (a0)), (1, .int (p0)), (2, .int (p1))] dX12_leafOf_21 rfl (by decide) rfl ?_
    refine zx_iload_n C dX12_leafOf_22 0 rfl ?_
    refine zx_if_ne C 30 dX12_leafOf_23 (by decide) (fun c7 => ?_) (fun c7 => ?_)
    · replace hm := in_e hm c7
      refine zx_aload_n C dX12_leafOf_30 1 rfl ?_
      refine zx_iload_n C dX12_leafOf_31 0 rfl ?_
      refine zx_iconst (v := 1) C dX12_leafOf_32 (by decide) ?_
      refine zx_isub C dX12_leafOf_33 ?_
      refine zx_iload_n C dX12_leafOf_34 3 rfl ?_
      refine zx_bipush (v := 40) C dX12_leafOf_35 (by decide) ?_
      refine zx_isub C dX12_leafOf_37 ?_
      refine zx_bipush (v := 32) C dX12_leafOf_38 (by decide) ?_
      refine zx_idiv C dX12_leafOf_40 (by decide) ?_
      obtain ⟨k8, i9, hm⟩ := ckO_e hm
      obtain ⟨v10, ρ11, h12, hm⟩ := cll_e hm
      refine zx_callV (σ := ρ5) C [.int ((v4) - (1)), .int (((p1) - (40)) / (32))] tC_11 k8 i9 Y_X12_pointer W_8_68 W_8_70 Wp_87 (c_X12_pointer h12) (by decide) (by decide) rfl (Nat.le_of_ble_eq_true rfl) dX12_leafOf_41 rfl ?_
      exact zx_lv [] [] rfl (j_X12_leafOf_44 C htab hin    hm)
    · replace hm := ip_e hm c7
      refine zx_iconst (v := 0) C dX12_leafOf_26 (by decide) ?_
      refine zx_goto C 44 dX12_leafOf_27 (by decide) ?_
      exact zx_lv [] [] rfl (j_X12_leafOf_44 C htab hin    hm)
  · replace hm := in_e hm c1
    refine zx_aload_n C dX12_leafOf_6 0 rfl ?_
    refine zx_iload_n C dX12_leafOf_7 1 rfl ?_
    refine zx_bipush (v := 93) C dX12_leafOf_8 (by decide) ?_
    obtain ⟨k14, i15, hm⟩ := ckO_e hm
    obtain ⟨v16, ρ17, h18, hm⟩ := cll_e hm
    refine zx_callV (σ := σ) C [.int (p0), .int (93)] tC_11 k14 i15 Y_X12_node W_8_40 W_8_42 Wp_80 (c_X12_node h18) (by decide) (by decide) rfl (Nat.le_of_ble_eq_true rfl) dX12_leafOf_10 rfl ?_
    obtain ⟨rfl, rfl⟩ := ret_e hm
    exact zx_iret C rfl rfl rfl dX12_leafOf_13
abbrev cX12_placeOf : ByteArray := prog_13_method_36_code
def yX12_placeOf : MethodName := ⟨"SyncTreeModel", "placeOf", "(I)I"⟩
theorem Y_X12_placeOf : tY yX12_placeOf cX12_placeOf 1 (some .int) 1 := ⟨W_8_74, W_1_14, ⟨by decide +kernel, by decide +kernel⟩, by decide +kernel⟩
theorem dX12_placeOf_0 : decode cX12_placeOf 0 = .ok (.iload_n 0, 1) := by decide +kernel
theorem dX12_placeOf_1 : decode cX12_placeOf 1 = .ok (.bipush 40, 2) := by decide +kernel
theorem dX12_placeOf_3 : decode cX12_placeOf 3 = .ok (.if_icmp .ge 10, 3) := by decide +kernel
theorem dX12_placeOf_6 : decode cX12_placeOf 6 = .ok (.iload_n 0, 1) := by decide +kernel
theorem dX12_placeOf_7 : decode cX12_placeOf 7 = .ok (.bipush 8, 2) := by decide +kernel
theorem dX12_placeOf_9 : decode cX12_placeOf 9 = .ok (.isub, 1) := by decide +kernel
theorem dX12_placeOf_10 : decode cX12_placeOf 10 = .ok (.goto 10, 3) := by decide +kernel
theorem dX12_placeOf_13 : decode cX12_placeOf 13 = .ok (.iload_n 0, 1) := by decide +kernel
theorem dX12_placeOf_14 : decode cX12_placeOf 14 = .ok (.bipush 40, 2) := by decide +kernel
theorem dX12_placeOf_16 : decode cX12_placeOf 16 = .ok (.isub, 1) := by decide +kernel
theorem dX12_placeOf_17 : decode cX12_placeOf 17 = .ok (.bipush 32, 2) := by decide +kernel
theorem dX12_placeOf_19 : decode cX12_placeOf 19 = .ok (.irem, 1) := by decide +kernel
theorem dX12_placeOf_20 : decode cX12_placeOf 20 = .ok (.ireturn, 1) := by decide +kernel
def J_X12_placeOf_20 (b0 fu : Nat)  (s0 : Int32) (σ : tM) : Option ((Int32) × tM) := some (s0, σ)
def m_X12_placeOf (b0 fu : Nat) (p0 : Int32) (σ : tM) : Option ((Int32) × tM) := grw σ (if (40) ≤ (p0) then J_X12_placeOf_20 b0 fu   (((p0) - (40)) - ((p0) - (40)) / (32) * (32)) (σ) else J_X12_placeOf_20 b0 fu   ((p0) - (8)) (σ))
set_option maxRecDepth 100000 in
set_option maxHeartbeats 1000000 in
theorem j_X12_placeOf_20 {p : Program} {l : Launch} {e : Env} {s : State} {m : MethodId} {args : Array Value} {below : List Frame} {meth : Method} {c : Code} {D : va_G} {aC : Nat → ClassId} {b0 fu : Nat} {σ0 τ : tM} {v : Int32}  (C : tCx p l s m args meth c yX12_placeOf.cls cX12_placeOf 1 (some .int) D aC b0 σ0) (htab : ∀ x ∈ c.exceptionTable.toList, False) (hin : meth.name = yX12_placeOf.name)  {s0 : Int32} {σ : tM} (hm : J_X12_placeOf_20 b0 fu  s0 σ = some (v, τ)) : tX p l e s m args below meth c 1 0 0 D aC b0 σ0 (.inl (some (.int v))) τ 20 [] [.int (s0)] σ := by
  unfold J_X12_placeOf_20 at hm
  obtain ⟨rfl, rfl⟩ := ret_e hm
  exact zx_iret C rfl rfl rfl dX12_placeOf_20
set_option maxRecDepth 100000 in
set_option maxHeartbeats 1000000 in
theorem c_X12_placeOf {l : Launch} {D : va_G} {aC : Nat → ClassId} {b0 fu : Nat} {p0 : Int32} {σ τ : tM} {v : Int32} (hm : m_X12_placeOf b0 fu p0 σ = some (v, τ)) : tMt l D aC b0 yX12_placeOf (Cond.code yX12_placeOf cX12_placeOf 1 (some .int)) 0 0 [.int (p0)] σ (.inl (some (.int v))) τ := by
  unfold m_X12_placeOf at hm
  obtain ⟨hg, hm⟩ := grw_e hm
  refine tMt_of (n := 0) rfl (Nat.le_of_ble_eq_true rfl) hg ?_
  intro p e s m below meth c C htab hin
  refine zx_lv [0] [(0, .int (p0))] rfl ?_
  refine zx_iload_n C dX12_placeOf_0 0 rfl ?_
  refine zx_bipush (v := 40) C dX12_placeOf_1 (by decide) ?_
  refine zx_icmp_ge C 13 dX12_placeOf_3 (by decide) (fun c1 => ?_) (fun c1 => ?_)
  · replace hm := ip_e hm c1
    refine zx_iload_n C dX12_placeOf_13 0 rfl ?_
    refine zx_bipush (v := 40) C dX12_placeOf_14 (by decide) ?_
    refine zx_isub C dX12_placeOf_16 ?_
    refine zx_bipush (v := 32) C dX12_placeOf_17 (by decide) ?_
    refine zx_irem C dX12_placeOf_19 (by decide) ?_
    exact zx_lv [] [] rfl (j_X12_placeOf_20 C htab hin    hm)
  · replace hm := in_e hm c1
    refine zx_iload_n C dX12_placeOf_6 0 rfl ?_
    refine zx_bipush (v := 8) C dX12_placeOf_7 (by decide) ?_
    refine zx_isub C dX12_placeOf_9 ?_
    refine zx_goto C 20 dX12_placeOf_10 (by decide) ?_
    exact zx_lv [] [] rfl (j_X12_placeOf_20 C htab hin    hm)
abbrev cX12_has : ByteArray := prog_13_method_37_code
def yX12_has : MethodName := ⟨"SyncTreeModel", "has", "(II)I"⟩
theorem Y_X12_has : tY yX12_has cX12_has 4 (some .int) 2 := ⟨W_8_63, W_1_14, ⟨by decide +kernel, by decide +kernel⟩, by decide +kernel⟩
theorem dX12_has_0 : decode cX12_has 0 = .ok (.iload_n 2, 1) := by decide +kernel
theorem dX12_has_1 : decode cX12_has 1 = .ok (.bipush 8, 2) := by decide +kernel
theorem dX12_has_3 : decode cX12_has 3 = .ok (.if_icmp .ge 13, 3) := by decide +kernel
theorem dX12_has_6 : decode cX12_has 6 = .ok (.aload_n 0, 1) := by decide +kernel
theorem dX12_has_7 : decode cX12_has 7 = .ok (.iload_n 1, 1) := by decide +kernel
theorem dX12_has_8 : decode cX12_has 8 = .ok (.bipush 85, 2) := by decide +kernel
theorem dX12_has_10 : decode cX12_has 10 = .ok (.iload_n 2, 1) := by decide +kernel
theorem dX12_has_11 : decode cX12_has 11 = .ok (.iadd, 1) := by decide +kernel
theorem dX12_has_12 : decode cX12_has 12 = .ok (.invokevirtual 247, 3) := by decide +kernel
theorem dX12_has_15 : decode cX12_has 15 = .ok (.ireturn, 1) := by decide +kernel
theorem dX12_has_16 : decode cX12_has 16 = .ok (.aload_n 0, 1) := by decide +kernel
theorem dX12_has_17 : decode cX12_has 17 = .ok (.iload_n 1, 1) := by decide +kernel
theorem dX12_has_18 : decode cX12_has 18 = .ok (.iload_n 2, 1) := by decide +kernel
theorem dX12_has_19 : decode cX12_has 19 = .ok (.invokevirtual 253, 3) := by decide +kernel
theorem dX12_has_22 : decode cX12_has 22 = .ok (.istore_n 3, 1) := by decide +kernel
theorem dX12_has_23 : decode cX12_has 23 = .ok (.iload_n 3, 1) := by decide +kernel
theorem dX12_has_24 : decode cX12_has 24 = .ok (.ifCond .ne 7, 3) := by decide +kernel
theorem dX12_has_27 : decode cX12_has 27 = .ok (.iconst 0, 1) := by decide +kernel
theorem dX12_has_28 : decode cX12_has 28 = .ok (.goto 14, 3) := by decide +kernel
theorem dX12_has_31 : decode cX12_has 31 = .ok (.aload_n 0, 1) := by decide +kernel
theorem dX12_has_32 : decode cX12_has 32 = .ok (.iload_n 3, 1) := by decide +kernel
theorem dX12_has_33 : decode cX12_has 33 = .ok (.iconst 1, 1) := by decide +kernel
theorem dX12_has_34 : decode cX12_has 34 = .ok (.isub, 1) := by decide +kernel
theorem dX12_has_35 : decode cX12_has 35 = .ok (.iload_n 2, 1) := by decide +kernel
theorem dX12_has_36 : decode cX12_has 36 = .ok (.invokestatic 256, 3) := by decide +kernel
theorem dX12_has_39 : decode cX12_has 39 = .ok (.invokevirtual 250, 3) := by decide +kernel
theorem dX12_has_42 : decode cX12_has 42 = .ok (.ireturn, 1) := by decide +kernel
def J_X12_has_42 (b0 fu : Nat)  (s0 : Int32) (σ : tM) : Option ((Int32) × tM) := some (s0, σ)
def m_X12_has (b0 fu : Nat) (a0 : Nat) (p0 : Int32) (p1 : Int32) (σ : tM) : Option ((Int32) × tM) := grw σ (if (8) ≤ (p1) then ckO b0 (σ) (a0) 11 (cll (m_X12_leafOf b0 fu (a0) (p0) (p1) (σ)) (fun v4 ρ5 => if (v4) = (0) then J_X12_has_42 b0 fu   (0) (ρ5) else cll (m_X12_placeOf b0 fu (p1) (ρ5)) (fun v8 ρ9 => ckO b0 (ρ9) (a0) 11 (cll (m_X12_pointer b0 fu (a0) ((v4) - (1)) (v8) (ρ9)) (fun v13 ρ14 => J_X12_has_42 b0 fu   (v13) (ρ14)))))) else ckO b0 (σ) (a0) 11 (cll (m_X12_node b0 fu (a0) (p0) ((85) + (p1)) (σ)) (fun v18 ρ19 => some (v18, ρ19))))
set_option maxRecDepth 100000 in
set_option maxHeartbeats 1000000 in
theorem j_X12_has_42 {p : Program} {l : Launch} {e : Env} {s : State} {m : MethodId} {args : Array Value} {below : List Frame} {meth : Method} {c : Code} {D : va_G} {aC : Nat → ClassId} {b0 fu : Nat} {σ0 τ : tM} {v : Int32}  (C : tCx p l s m args meth c yX12_has.cls cX12_has 4 (some .int) D aC b0 σ0) (htab : ∀ x ∈ c.exceptionTable.toList, False) (hin : meth.name = yX12_has.name)  {s0 : Int32} {σ : tM} (hm : J_X12_has_42 b0 fu  s0 σ = some (v, τ)) : tX p l e s m args below meth c 4 3 66 D aC b0 σ0 (.inl (some (.int v))) τ 42 [] [.int (s0)] σ := by
  unfold J_X12_has_42 at hm
  obtain ⟨rfl, rfl⟩ := ret_e hm
  exact zx_iret C rfl rfl rfl dX12_has_42
set_option maxRecDepth 100000 in
set_option maxHeartbeats 1000000 in
theorem c_X12_has {l : Launch} {D : va_G} {aC : Nat → ClassId} {b0 fu : Nat} {a0 : Nat} {p0 : Int32} {p1 : Int32} {σ τ : tM} {v : Int32} (hm : m_X12_has b0 fu a0 p0 p1 σ = some (v, τ)) : tMt l D aC b0 yX12_has (Cond.code yX12_has cX12_has 4 (some .int)) 3 66 [.ref (a0), .int (p0), .int (p1)] σ (.inl (some (.int v))) τ := by
  unfold m_X12_has at hm
  obtain ⟨hg, hm⟩ := grw_e hm
  refine tMt_of (n := 0) rfl (Nat.le_of_ble_eq_true rfl) hg ?_
  intro p e s m below meth c C htab hin
  refine zx_lv [0, 1, 2] [(0, .ref (a0)), (1, .int (p0)), (2, .int (p1))] rfl ?_
  refine zx_iload_n C dX12_has_0 2 rfl ?_
  refine zx_bipush (v := 8) C dX12_has_1 (by decide) ?_
  refine zx_icmp_ge C 16 dX12_has_3 (by decide) (fun c1 => ?_) (fun c1 => ?_)
  · replace hm := ip_e hm c1
    refine zx_aload_n C dX12_has_16 0 rfl ?_
    refine zx_iload_n C dX12_has_17 1 rfl ?_
    refine zx_iload_n C dX12_has_18 2 rfl ?_
    obtain ⟨k2, i3, hm⟩ := ckO_e hm
    obtain ⟨v4, ρ5, h6, hm⟩ := cll_e hm
    refine zx_callV (σ := σ) C [.int (p0), .int (p1)] tC_11 k2 i3 Y_X12_leafOf W_8_64 W_8_66 Wp_86 (c_X12_leafOf h6) (by decide) (by decide) rfl (Nat.le_of_ble_eq_true rfl) dX12_has_19 rfl ?_
    refine zx_istore_n C [(3, .int (v4)), (0, .ref (a0)), (1, .int (p0)), (2, .int (p1))] dX12_has_22 rfl (by decide) rfl ?_
    refine zx_iload_n C dX12_has_23 0 rfl ?_
    refine zx_if_ne C 31 dX12_has_24 (by decide) (fun c7 => ?_) (fun c7 => ?_)
    · replace hm := in_e hm c7
      refine zx_aload_n C dX12_has_31 1 rfl ?_
      refine zx_iload_n C dX12_has_32 0 rfl ?_
      refine zx_iconst (v := 1) C dX12_has_33 (by decide) ?_
      refine zx_isub C dX12_has_34 ?_
      refine zx_iload_n C dX12_has_35 3 rfl ?_
      obtain ⟨v8, ρ9, h10, hm⟩ := cll_e hm
      refine zx_callS (σ := ρ5) C [.int (p1)] Y_X12_placeOf W_8_72 W_8_73 (c_X12_placeOf h10) (by decide) (by decide) rfl (Nat.le_of_ble_eq_true rfl) dX12_has_36 rfl ?_
      obtain ⟨k11, i12, hm⟩ := ckO_e hm
      obtain ⟨v13, ρ14, h15, hm⟩ := cll_e hm
      refine zx_callV (σ := ρ9) C [.int ((v4) - (1)), .int (v8)] tC_11 k11 i12 Y_X12_pointer W_8_68 W_8_70 Wp_87 (c_X12_pointer h15) (by decide) (by decide) rfl (Nat.le_of_ble_eq_true rfl) dX12_has_39 rfl ?_
      exact zx_lv [] [] rfl (j_X12_has_42 C htab hin    hm)
    · replace hm := ip_e hm c7
      refine zx_iconst (v := 0) C dX12_has_27 (by decide) ?_
      refine zx_goto C 42 dX12_has_28 (by decide) ?_
      exact zx_lv [] [] rfl (j_X12_has_42 C htab hin    hm)
  · replace hm := in_e hm c1
    refine zx_aload_n C dX12_has_6 0 rfl ?_
    refine zx_iload_n C dX12_has_7 1 rfl ?_
    refine zx_bipush (v := 85) C dX12_has_8 (by decide) ?_
    refine zx_iload_n C dX12_has_10 2 rfl ?_
    refine zx_iadd C dX12_has_11 ?_
    obtain ⟨k16, i17, hm⟩ := ckO_e hm
    obtain ⟨v18, ρ19, h20, hm⟩ := cll_e hm
    refine zx_callV (σ := σ) C [.int (p0), .int ((85) + (p1))] tC_11 k16 i17 Y_X12_node W_8_40 W_8_42 Wp_80 (c_X12_node h20) (by decide) (by decide) rfl (Nat.le_of_ble_eq_true rfl) dX12_has_12 rfl ?_
    obtain ⟨rfl, rfl⟩ := ret_e hm
    exact zx_iret C rfl rfl rfl dX12_has_15
abbrev cX12_needs : ByteArray := prog_13_method_38_code
def yX12_needs : MethodName := ⟨"SyncTreeModel", "needs", "(III)I"⟩
theorem Y_X12_needs : tY yX12_needs cX12_needs 10 (some .int) 3 := ⟨W_8_90, W_1_14, ⟨by decide +kernel, by decide +kernel⟩, by decide +kernel⟩
theorem dX12_needs_0 : decode cX12_needs 0 = .ok (.iconst 0, 1) := by decide +kernel
theorem dX12_needs_1 : decode cX12_needs 1 = .ok (.istore 4, 2) := by decide +kernel
theorem dX12_needs_3 : decode cX12_needs 3 = .ok (.iconst (-1), 1) := by decide +kernel
theorem dX12_needs_4 : decode cX12_needs 4 = .ok (.istore 5, 2) := by decide +kernel
theorem dX12_needs_6 : decode cX12_needs 6 = .ok (.aload_n 0, 1) := by decide +kernel
theorem dX12_needs_7 : decode cX12_needs 7 = .ok (.iload_n 1, 1) := by decide +kernel
theorem dX12_needs_8 : decode cX12_needs 8 = .ok (.bipush 93, 2) := by decide +kernel
theorem dX12_needs_10 : decode cX12_needs 10 = .ok (.invokevirtual 247, 3) := by decide +kernel
theorem dX12_needs_13 : decode cX12_needs 13 = .ok (.ifCond .eq 7, 3) := by decide +kernel
theorem dX12_needs_16 : decode cX12_needs 16 = .ok (.iconst 1, 1) := by decide +kernel
theorem dX12_needs_17 : decode cX12_needs 17 = .ok (.goto 4, 3) := by decide +kernel
theorem dX12_needs_20 : decode cX12_needs 20 = .ok (.iconst 0, 1) := by decide +kernel
theorem dX12_needs_21 : decode cX12_needs 21 = .ok (.istore 6, 2) := by decide +kernel
theorem dX12_needs_23 : decode cX12_needs 23 = .ok (.aload_n 0, 1) := by decide +kernel
theorem dX12_needs_24 : decode cX12_needs 24 = .ok (.iload_n 1, 1) := by decide +kernel
theorem dX12_needs_25 : decode cX12_needs 25 = .ok (.bipush 94, 2) := by decide +kernel
theorem dX12_needs_27 : decode cX12_needs 27 = .ok (.invokevirtual 247, 3) := by decide +kernel
theorem dX12_needs_30 : decode cX12_needs 30 = .ok (.ifCond .eq 7, 3) := by decide +kernel
theorem dX12_needs_33 : decode cX12_needs 33 = .ok (.iconst 1, 1) := by decide +kernel
theorem dX12_needs_34 : decode cX12_needs 34 = .ok (.goto 4, 3) := by decide +kernel
theorem dX12_needs_37 : decode cX12_needs 37 = .ok (.iconst 0, 1) := by decide +kernel
theorem dX12_needs_38 : decode cX12_needs 38 = .ok (.istore 7, 2) := by decide +kernel
theorem dX12_needs_40 : decode cX12_needs 40 = .ok (.iload_n 2, 1) := by decide +kernel
theorem dX12_needs_41 : decode cX12_needs 41 = .ok (.istore 8, 2) := by decide +kernel
theorem dX12_needs_43 : decode cX12_needs 43 = .ok (.iload 8, 2) := by decide +kernel
theorem dX12_needs_45 : decode cX12_needs 45 = .ok (.iload_n 3, 1) := by decide +kernel
theorem dX12_needs_46 : decode cX12_needs 46 = .ok (.if_icmp .gt 105, 3) := by decide +kernel
theorem dX12_needs_49 : decode cX12_needs 49 = .ok (.aload_n 0, 1) := by decide +kernel
theorem dX12_needs_50 : decode cX12_needs 50 = .ok (.iload_n 1, 1) := by decide +kernel
theorem dX12_needs_51 : decode cX12_needs 51 = .ok (.iload 8, 2) := by decide +kernel
theorem dX12_needs_53 : decode cX12_needs 53 = .ok (.invokevirtual 259, 3) := by decide +kernel
theorem dX12_needs_56 : decode cX12_needs 56 = .ok (.ifCond .eq 6, 3) := by decide +kernel
theorem dX12_needs_59 : decode cX12_needs 59 = .ok (.goto 86, 3) := by decide +kernel
theorem dX12_needs_62 : decode cX12_needs 62 = .ok (.iinc 4 1, 3) := by decide +kernel
theorem dX12_needs_65 : decode cX12_needs 65 = .ok (.iload 8, 2) := by decide +kernel
theorem dX12_needs_67 : decode cX12_needs 67 = .ok (.bipush 8, 2) := by decide +kernel
theorem dX12_needs_69 : decode cX12_needs 69 = .ok (.if_icmp .lt 21, 3) := by decide +kernel
theorem dX12_needs_72 : decode cX12_needs 72 = .ok (.iload 8, 2) := by decide +kernel
theorem dX12_needs_74 : decode cX12_needs 74 = .ok (.bipush 40, 2) := by decide +kernel
theorem dX12_needs_76 : decode cX12_needs 76 = .ok (.if_icmp .ge 14, 3) := by decide +kernel
theorem dX12_needs_79 : decode cX12_needs 79 = .ok (.iload 6, 2) := by decide +kernel
theorem dX12_needs_81 : decode cX12_needs 81 = .ok (.ifCond .ne 9, 3) := by decide +kernel
theorem dX12_needs_84 : decode cX12_needs 84 = .ok (.iinc 4 1, 3) := by decide +kernel
theorem dX12_needs_87 : decode cX12_needs 87 = .ok (.iconst 1, 1) := by decide +kernel
theorem dX12_needs_88 : decode cX12_needs 88 = .ok (.istore 6, 2) := by decide +kernel
theorem dX12_needs_90 : decode cX12_needs 90 = .ok (.iload 8, 2) := by decide +kernel
theorem dX12_needs_92 : decode cX12_needs 92 = .ok (.bipush 40, 2) := by decide +kernel
theorem dX12_needs_94 : decode cX12_needs 94 = .ok (.if_icmp .ge 6, 3) := by decide +kernel
theorem dX12_needs_97 : decode cX12_needs 97 = .ok (.goto 48, 3) := by decide +kernel
theorem dX12_needs_100 : decode cX12_needs 100 = .ok (.iload 7, 2) := by decide +kernel
theorem dX12_needs_102 : decode cX12_needs 102 = .ok (.ifCond .ne 9, 3) := by decide +kernel
theorem dX12_needs_105 : decode cX12_needs 105 = .ok (.iinc 4 1, 3) := by decide +kernel
theorem dX12_needs_108 : decode cX12_needs 108 = .ok (.iconst 1, 1) := by decide +kernel
theorem dX12_needs_109 : decode cX12_needs 109 = .ok (.istore 7, 2) := by decide +kernel
theorem dX12_needs_111 : decode cX12_needs 111 = .ok (.iload 8, 2) := by decide +kernel
theorem dX12_needs_113 : decode cX12_needs 113 = .ok (.bipush 40, 2) := by decide +kernel
theorem dX12_needs_115 : decode cX12_needs 115 = .ok (.isub, 1) := by decide +kernel
theorem dX12_needs_116 : decode cX12_needs 116 = .ok (.bipush 32, 2) := by decide +kernel
theorem dX12_needs_118 : decode cX12_needs 118 = .ok (.idiv, 1) := by decide +kernel
theorem dX12_needs_119 : decode cX12_needs 119 = .ok (.istore 9, 2) := by decide +kernel
theorem dX12_needs_121 : decode cX12_needs 121 = .ok (.aload_n 0, 1) := by decide +kernel
theorem dX12_needs_122 : decode cX12_needs 122 = .ok (.iload_n 1, 1) := by decide +kernel
theorem dX12_needs_123 : decode cX12_needs 123 = .ok (.iload 8, 2) := by decide +kernel
theorem dX12_needs_125 : decode cX12_needs 125 = .ok (.invokevirtual 253, 3) := by decide +kernel
theorem dX12_needs_128 : decode cX12_needs 128 = .ok (.ifCond .ne 13, 3) := by decide +kernel
theorem dX12_needs_131 : decode cX12_needs 131 = .ok (.iload 9, 2) := by decide +kernel
theorem dX12_needs_133 : decode cX12_needs 133 = .ok (.iload 5, 2) := by decide +kernel
theorem dX12_needs_135 : decode cX12_needs 135 = .ok (.if_icmp .eq 6, 3) := by decide +kernel
theorem dX12_needs_138 : decode cX12_needs 138 = .ok (.iinc 4 1, 3) := by decide +kernel
theorem dX12_needs_141 : decode cX12_needs 141 = .ok (.iload 9, 2) := by decide +kernel
theorem dX12_needs_143 : decode cX12_needs 143 = .ok (.istore 5, 2) := by decide +kernel
theorem dX12_needs_145 : decode cX12_needs 145 = .ok (.iinc 8 1, 3) := by decide +kernel
theorem dX12_needs_148 : decode cX12_needs 148 = .ok (.goto (-105), 3) := by decide +kernel
theorem dX12_needs_151 : decode cX12_needs 151 = .ok (.iload 4, 2) := by decide +kernel
theorem dX12_needs_153 : decode cX12_needs 153 = .ok (.ireturn, 1) := by decide +kernel
def J_X12_needs_145 (b0 fu : Nat) (rc43 : Nat → Int32 → Int32 → Int32 → Int32 → Int32 → Int32 → Int32 → tM → Option ((Int32) × tM)) (x0 : Nat) (x1 : Int32) (x3 : Int32) (x4 : Int32) (x5 : Int32) (x6 : Int32) (x7 : Int32) (x8 : Int32) (σ : tM) : Option ((Int32) × tM) := ltb ((x8) + Int32.ofInt 1) (fun y31 => rc43 (x0) (x1) (x3) (x4) (x5) (x6) (x7) (y31) (σ))
def J_X12_needs_141 (b0 fu : Nat) (rc43 : Nat → Int32 → Int32 → Int32 → Int32 → Int32 → Int32 → Int32 → tM → Option ((Int32) × tM)) (x0 : Nat) (x1 : Int32) (x3 : Int32) (x4 : Int32) (x6 : Int32) (x7 : Int32) (x8 : Int32) (x9 : Int32) (σ : tM) : Option ((Int32) × tM) := J_X12_needs_145 b0 fu rc43  (x0) (x1) (x3) (x4) (x9) (x6) (x7) (x8) (σ)
def J_X12_needs_111 (b0 fu : Nat) (rc43 : Nat → Int32 → Int32 → Int32 → Int32 → Int32 → Int32 → Int32 → tM → Option ((Int32) × tM)) (x0 : Nat) (x1 : Int32) (x3 : Int32) (x4 : Int32) (x5 : Int32) (x6 : Int32) (x7 : Int32) (x8 : Int32) (σ : tM) : Option ((Int32) × tM) := ltb ((((x8) - (40)) / (32) : Int32)) (fun y24 => ckO b0 (σ) (x0) 11 (cll (m_X12_leafOf b0 fu (x0) (x1) (x8) (σ)) (fun v27 ρ28 => if (v27) = (0) then if (y24) = (x5) then J_X12_needs_141 b0 fu rc43  (x0) (x1) (x3) (x4) (x6) (x7) (x8) (y24) (ρ28) else ltb ((x4) + Int32.ofInt 1) (fun y33 => J_X12_needs_141 b0 fu rc43  (x0) (x1) (x3) (y33) (x6) (x7) (x8) (y24) (ρ28)) else J_X12_needs_141 b0 fu rc43  (x0) (x1) (x3) (x4) (x6) (x7) (x8) (y24) (ρ28))))
def J_X12_needs_90 (b0 fu : Nat) (rc43 : Nat → Int32 → Int32 → Int32 → Int32 → Int32 → Int32 → Int32 → tM → Option ((Int32) × tM)) (x0 : Nat) (x1 : Int32) (x3 : Int32) (x4 : Int32) (x5 : Int32) (x6 : Int32) (x7 : Int32) (x8 : Int32) (σ : tM) : Option ((Int32) × tM) := if (40) ≤ (x8) then if (x7) = (0) then ltb ((x4) + Int32.ofInt 1) (fun y35 => J_X12_needs_111 b0 fu rc43  (x0) (x1) (x3) (y35) (x5) (x6) (1) (x8) (σ)) else J_X12_needs_111 b0 fu rc43  (x0) (x1) (x3) (x4) (x5) (x6) (x7) (x8) (σ) else J_X12_needs_145 b0 fu rc43  (x0) (x1) (x3) (x4) (x5) (x6) (x7) (x8) (σ)
def L_X12_needs_43 (b0 fu : Nat)  : Nat → Nat → Int32 → Int32 → Int32 → Int32 → Int32 → Int32 → Int32 → tM → Option ((Int32) × tM)
  | 0, _, _, _, _, _, _, _, _, _ => none
  | n + 1, x0, x1, x3, x4, x5, x6, x7, x8, σ => ltb (L_X12_needs_43 b0 fu  n) (fun rc43 => if (x3) < (x8) then some (x4, σ) else ckO b0 (σ) (x0) 11 (cll (m_X12_has b0 fu (x0) (x1) (x8) (σ)) (fun v16 ρ17 => if (v16) = (0) then ltb ((x4) + Int32.ofInt 1) (fun y20 => if (x8) < (8) then J_X12_needs_90 b0 fu rc43  (x0) (x1) (x3) (y20) (x5) (x6) (x7) (x8) (ρ17) else if (40) ≤ (x8) then J_X12_needs_90 b0 fu rc43  (x0) (x1) (x3) (y20) (x5) (x6) (x7) (x8) (ρ17) else if (x6) = (0) then ltb ((y20) + Int32.ofInt 1) (fun y38 => J_X12_needs_90 b0 fu rc43  (x0) (x1) (x3) (y38) (x5) (1) (x7) (x8) (ρ17)) else J_X12_needs_90 b0 fu rc43  (x0) (x1) (x3) (y20) (x5) (x6) (x7) (x8) (ρ17)) else J_X12_needs_145 b0 fu rc43  (x0) (x1) (x3) (x4) (x5) (x6) (x7) (x8) (ρ17))))
def J_X12_needs_38 (b0 fu : Nat)  (x0 : Nat) (x1 : Int32) (x2 : Int32) (x3 : Int32) (x4 : Int32) (x5 : Int32) (x6 : Int32) (s0 : Int32) (σ : tM) : Option ((Int32) × tM) := L_X12_needs_43 b0 fu  (fu) (x0) (x1) (x3) (x4) (x5) (x6) (s0) (x2) (σ)
def J_X12_needs_21 (b0 fu : Nat)  (x0 : Nat) (x1 : Int32) (x2 : Int32) (x3 : Int32) (x4 : Int32) (x5 : Int32) (s0 : Int32) (σ : tM) : Option ((Int32) × tM) := ckO b0 (σ) (x0) 11 (cll (m_X12_node b0 fu (x0) (x1) (94) (σ)) (fun v9 ρ10 => if (v9) = (0) then J_X12_needs_38 b0 fu   (x0) (x1) (x2) (x3) (x4) (x5) (s0) (0) (ρ10) else J_X12_needs_38 b0 fu   (x0) (x1) (x2) (x3) (x4) (x5) (s0) (1) (ρ10)))
def m_X12_needs (b0 fu : Nat) (a0 : Nat) (p0 : Int32) (p1 : Int32) (p2 : Int32) (σ : tM) : Option ((Int32) × tM) := grw σ (ckO b0 (σ) (a0) 11 (cll (m_X12_node b0 fu (a0) (p0) (93) (σ)) (fun v3 ρ4 => if (v3) = (0) then J_X12_needs_21 b0 fu   (a0) (p0) (p1) (p2) (0) ((-1)) (0) (ρ4) else J_X12_needs_21 b0 fu   (a0) (p0) (p1) (p2) (0) ((-1)) (1) (ρ4))))
set_option maxRecDepth 100000 in
set_option maxHeartbeats 1000000 in
theorem j_X12_needs_145 {p : Program} {l : Launch} {e : Env} {s : State} {m : MethodId} {args : Array Value} {below : List Frame} {meth : Method} {c : Code} {D : va_G} {aC : Nat → ClassId} {b0 fu : Nat} {σ0 τ : tM} {v : Int32} {rc43 : Nat → Int32 → Int32 → Int32 → Int32 → Int32 → Int32 → Int32 → tM → Option ((Int32) × tM)} (C : tCx p l s m args meth c yX12_needs.cls cX12_needs 10 (some .int) D aC b0 σ0) (htab : ∀ x ∈ c.exceptionTable.toList, False) (hin : meth.name = yX12_needs.name) (hrc43 : ∀ (x0 : Nat) (x1 : Int32) (x3 : Int32) (x4 : Int32) (x5 : Int32) (x6 : Int32) (x7 : Int32) (x8 : Int32) (ρ : tM), rc43 x0 x1 x3 x4 x5 x6 x7 x8 ρ = some (v, τ) → tX p l e s m args below meth c 10 4 89 D aC b0 σ0 (.inl (some (.int v))) τ 43 [(0, .ref (x0)), (1, .int (x1)), (3, .int (x3)), (4, .int (x4)), (5, .int (x5)), (6, .int (x6)), (7, .int (x7)), (8, .int (x8))] [] ρ) {x0 : Nat} {x1 : Int32} {x3 : Int32} {x4 : Int32} {x5 : Int32} {x6 : Int32} {x7 : Int32} {x8 : Int32} {σ : tM} (hm : J_X12_needs_145 b0 fu rc43 x0 x1 x3 x4 x5 x6 x7 x8 σ = some (v, τ)) : tX p l e s m args below meth c 10 4 89 D aC b0 σ0 (.inl (some (.int v))) τ 145 [(0, .ref (x0)), (1, .int (x1)), (3, .int (x3)), (4, .int (x4)), (5, .int (x5)), (6, .int (x6)), (7, .int (x7)), (8, .int (x8))] [] σ := by
  unfold J_X12_needs_145 at hm
  obtain ⟨y31, hy31⟩ : ∃ z : Int32, z = (x8) + Int32.ofInt 1 := ⟨_, rfl⟩
  replace hm := ltb_e hm hy31
  refine zx_iinc C [(8, .int (y31)), (0, .ref (x0)), (1, .int (x1)), (3, .int (x3)), (4, .int (x4)), (5, .int (x5)), (6, .int (x6)), (7, .int (x7))] dX12_needs_145 7 rfl hy31.symm (by decide) rfl ?_
  refine zx_goto C 43 dX12_needs_148 (by decide) ?_
  exact zx_lv [1, 2, 3, 4, 5, 6, 7, 0] [(0, .ref (x0)), (1, .int (x1)), (3, .int (x3)), (4, .int (x4)), (5, .int (x5)), (6, .int (x6)), (7, .int (x7)), (8, .int (y31))] rfl (hrc43 _ _ _ _ _ _ _ _ _ hm)
set_option maxRecDepth 100000 in
set_option maxHeartbeats 1000000 in
theorem j_X12_needs_141 {p : Program} {l : Launch} {e : Env} {s : State} {m : MethodId} {args : Array Value} {below : List Frame} {meth : Method} {c : Code} {D : va_G} {aC : Nat → ClassId} {b0 fu : Nat} {σ0 τ : tM} {v : Int32} {rc43 : Nat → Int32 → Int32 → Int32 → Int32 → Int32 → Int32 → Int32 → tM → Option ((Int32) × tM)} (C : tCx p l s m args meth c yX12_needs.cls cX12_needs 10 (some .int) D aC b0 σ0) (htab : ∀ x ∈ c.exceptionTable.toList, False) (hin : meth.name = yX12_needs.name) (hrc43 : ∀ (x0 : Nat) (x1 : Int32) (x3 : Int32) (x4 : Int32) (x5 : Int32) (x6 : Int32) (x7 : Int32) (x8 : Int32) (ρ : tM), rc43 x0 x1 x3 x4 x5 x6 x7 x8 ρ = some (v, τ) → tX p l e s m args below meth c 10 4 89 D aC b0 σ0 (.inl (some (.int v))) τ 43 [(0, .ref (x0)), (1, .int (x1)), (3, .int (x3)), (4, .int (x4)), (5, .int (x5)), (6, .int (x6)), (7, .int (x7)), (8, .int (x8))] [] ρ) {x0 : Nat} {x1 : Int32} {x3 : Int32} {x4 : Int32} {x6 : Int32} {x7 : Int32} {x8 : Int32} {x9 : Int32} {σ : tM} (hm : J_X12_needs_141 b0 fu rc43 x0 x1 x3 x4 x6 x7 x8 x9 σ = some (v, τ)) : tX p l e s m args below meth c 10 4 89 D aC b0 σ0 (.inl (some (.int v))) τ 141 [(0, .ref (x0)), (1, .int (x1)), (3, .int (x3)), (4, .int (x4)), (6, .int (x6)), (7, .int (x7)), (8, .int (x8)), (9, .int (x9))] [] σ := by
  unfold J_X12_needs_141 at hm
  refine zx_iload C dX12_needs_141 7 rfl ?_
  refine zx_istore C [(5, .int (x9)), (0, .ref (x0)), (1, .int (x1)), (3, .int (x3)), (4, .int (x4)), (6, .int (x6)), (7, .int (x7)), (8, .int (x8)), (9, .int (x9))] dX12_needs_143 (by decide) rfl ?_
  exact zx_lv [1, 2, 3, 4, 0, 5, 6, 7] [(0, .ref (x0)), (1, .int (x1)), (3, .int (x3)), (4, .int (x4)), (5, .int (x9)), (6, .int (x6)), (7, .int (x7)), (8, .int (x8))] rfl (j_X12_needs_145 C htab hin hrc43   hm)
set_option maxRecDepth 100000 in
set_option maxHeartbeats 1000000 in
theorem j_X12_needs_111 {p : Program} {l : Launch} {e : Env} {s : State} {m : MethodId} {args : Array Value} {below : List Frame} {meth : Method} {c : Code} {D : va_G} {aC : Nat → ClassId} {b0 fu : Nat} {σ0 τ : tM} {v : Int32} {rc43 : Nat → Int32 → Int32 → Int32 → Int32 → Int32 → Int32 → Int32 → tM → Option ((Int32) × tM)} (C : tCx p l s m args meth c yX12_needs.cls cX12_needs 10 (some .int) D aC b0 σ0) (htab : ∀ x ∈ c.exceptionTable.toList, False) (hin : meth.name = yX12_needs.name) (hrc43 : ∀ (x0 : Nat) (x1 : Int32) (x3 : Int32) (x4 : Int32) (x5 : Int32) (x6 : Int32) (x7 : Int32) (x8 : Int32) (ρ : tM), rc43 x0 x1 x3 x4 x5 x6 x7 x8 ρ = some (v, τ) → tX p l e s m args below meth c 10 4 89 D aC b0 σ0 (.inl (some (.int v))) τ 43 [(0, .ref (x0)), (1, .int (x1)), (3, .int (x3)), (4, .int (x4)), (5, .int (x5)), (6, .int (x6)), (7, .int (x7)), (8, .int (x8))] [] ρ) {x0 : Nat} {x1 : Int32} {x3 : Int32} {x4 : Int32} {x5 : Int32} {x6 : Int32} {x7 : Int32} {x8 : Int32} {σ : tM} (hm : J_X12_needs_111 b0 fu rc43 x0 x1 x3 x4 x5 x6 x7 x8 σ = some (v, τ)) : tX p l e s m args below meth c 10 4 89 D aC b0 σ0 (.inl (some (.int v))) τ 111 [(0, .ref (x0)), (1, .int (x1)), (3, .int (x3)), (4, .int (x4)), (5, .int (x5)), (6, .int (x6)), (7, .int (x7)), (8, .int (x8))] [] σ := by
  unfold J_X12_needs_111 at hm
  refine zx_iload C dX12_needs_111 7 rfl ?_
  refine zx_bipush (v := 40) C dX12_needs_113 (by decide) ?_
  refine zx_isub C dX12_needs_115 ?_
  refine zx_bipush (v := 32) C dX12_needs_116 (by decide) ?_
  refine zx_idiv C dX12_needs_118 (by decide) ?_
  refine zx_topi (fun y24 hy24 => ?_)
  replace hm := ltb_e hm hy24
  refine zx_istore C [(9, .int (y24)), (0, .ref (x0)), (1, .int (x1)), (3, .int (x3)), (4, .int (x4)), (5, .int (x5)), (6, .int (x6)), (7, .int (x7)), (8, .int (x8))] dX12_needs_119 (by decide) rfl ?_
  refine zx_aload_n C dX12_needs_121 1 rfl ?_
  refine zx_iload_n C dX12_needs_122 2 rfl ?_
  refine zx_iload C dX12_needs_123 8 rfl ?_
  obtain ⟨k25, i26, hm⟩ := ckO_e hm
  obtain ⟨v27, ρ28, h29, hm⟩ := cll_e hm
  refine zx_callV (σ := σ) C [.int (x1), .int (x8)] tC_11 k25 i26 Y_X12_leafOf W_8_64 W_8_66 Wp_86 (c_X12_leafOf h29) (by decide) (by decide) rfl (Nat.le_of_ble_eq_true rfl) dX12_needs_125 rfl ?_
  refine zx_if_ne C 141 dX12_needs_128 (by decide) (fun c30 => ?_) (fun c30 => ?_)
  · replace hm := in_e hm c30
    exact zx_lv [1, 2, 3, 4, 6, 7, 8, 0] [(0, .ref (x0)), (1, .int (x1)), (3, .int (x3)), (4, .int (x4)), (6, .int (x6)), (7, .int (x7)), (8, .int (x8)), (9, .int (y24))] rfl (j_X12_needs_141 C htab hin hrc43   hm)
  · replace hm := ip_e hm c30
    refine zx_iload C dX12_needs_131 0 rfl ?_
    refine zx_iload C dX12_needs_133 5 rfl ?_
    refine zx_icmp_eq C 141 dX12_needs_135 (by decide) (fun c32 => ?_) (fun c32 => ?_)
    · replace hm := ip_e hm c32
      exact zx_lv [1, 2, 3, 4, 6, 7, 8, 0] [(0, .ref (x0)), (1, .int (x1)), (3, .int (x3)), (4, .int (x4)), (6, .int (x6)), (7, .int (x7)), (8, .int (x8)), (9, .int (y24))] rfl (j_X12_needs_141 C htab hin hrc43   hm)
    · replace hm := in_e hm c32
      obtain ⟨y33, hy33⟩ : ∃ z : Int32, z = (x4) + Int32.ofInt 1 := ⟨_, rfl⟩
      replace hm := ltb_e hm hy33
      refine zx_iinc C [(4, .int (y33)), (9, .int (y24)), (0, .ref (x0)), (1, .int (x1)), (3, .int (x3)), (5, .int (x5)), (6, .int (x6)), (7, .int (x7)), (8, .int (x8))] dX12_needs_138 4 rfl hy33.symm (by decide) rfl ?_
      exact zx_lv [2, 3, 4, 0, 6, 7, 8, 1] [(0, .ref (x0)), (1, .int (x1)), (3, .int (x3)), (4, .int (y33)), (6, .int (x6)), (7, .int (x7)), (8, .int (x8)), (9, .int (y24))] rfl (j_X12_needs_141 C htab hin hrc43   hm)
set_option maxRecDepth 100000 in
set_option maxHeartbeats 1000000 in
theorem j_X12_needs_90 {p : Program} {l : Launch} {e : Env} {s : State} {m : MethodId} {args : Array Value} {below : List Frame} {meth : Method} {c : Code} {D : va_G} {aC : Nat → ClassId} {b0 fu : Nat} {σ0 τ : tM} {v : Int32} {rc43 : Nat → Int32 → Int32 → Int32 → Int32 → Int32 → Int32 → Int32 → tM → Option ((Int32) × tM)} (C : tCx p l s m args meth c yX12_needs.cls cX12_needs 10 (some .int) D aC b0 σ0) (htab : ∀ x ∈ c.exceptionTable.toList, False) (hin : meth.name = yX12_needs.name) (hrc43 : ∀ (x0 : Nat) (x1 : Int32) (x3 : Int32) (x4 : Int32) (x5 : Int32) (x6 : Int32) (x7 : Int32) (x8 : Int32) (ρ : tM), rc43 x0 x1 x3 x4 x5 x6 x7 x8 ρ = some (v, τ) → tX p l e s m args below meth c 10 4 89 D aC b0 σ0 (.inl (some (.int v))) τ 43 [(0, .ref (x0)), (1, .int (x1)), (3, .int (x3)), (4, .int (x4)), (5, .int (x5)), (6, .int (x6)), (7, .int (x7)), (8, .int (x8))] [] ρ) {x0 : Nat} {x1 : Int32} {x3 : Int32} {x4 : Int32} {x5 : Int32} {x6 : Int32} {x7 : Int32} {x8 : Int32} {σ : tM} (hm : J_X12_needs_90 b0 fu rc43 x0 x1 x3 x4 x5 x6 x7 x8 σ = some (v, τ)) : tX p l e s m args below meth c 10 4 89 D aC b0 σ0 (.inl (some (.int v))) τ 90 [(0, .ref (x0)), (1, .int (x1)), (3, .int (x3)), (4, .int (x4)), (5, .int (x5)), (6, .int (x6)), (7, .int (x7)), (8, .int (x8))] [] σ := by
  unfold J_X12_needs_90 at hm
  refine zx_iload C dX12_needs_90 7 rfl ?_
  refine zx_bipush (v := 40) C dX12_needs_92 (by decide) ?_
  refine zx_icmp_ge C 100 dX12_needs_94 (by decide) (fun c22 => ?_) (fun c22 => ?_)
  · replace hm := ip_e hm c22
    refine zx_iload C dX12_needs_100 6 rfl ?_
    refine zx_if_ne C 111 dX12_needs_102 (by decide) (fun c23 => ?_) (fun c23 => ?_)
    · replace hm := in_e hm c23
      exact zx_lv [0, 1, 2, 3, 4, 5, 6, 7] [(0, .ref (x0)), (1, .int (x1)), (3, .int (x3)), (4, .int (x4)), (5, .int (x5)), (6, .int (x6)), (7, .int (x7)), (8, .int (x8))] rfl (j_X12_needs_111 C htab hin hrc43   hm)
    · replace hm := ip_e hm c23
      obtain ⟨y35, hy35⟩ : ∃ z : Int32, z = (x4) + Int32.ofInt 1 := ⟨_, rfl⟩
      replace hm := ltb_e hm hy35
      refine zx_iinc C [(4, .int (y35)), (0, .ref (x0)), (1, .int (x1)), (3, .int (x3)), (5, .int (x5)), (6, .int (x6)), (7, .int (x7)), (8, .int (x8))] dX12_needs_105 3 rfl hy35.symm (by decide) rfl ?_
      refine zx_iconst (v := 1) C dX12_needs_108 (by decide) ?_
      refine zx_istore C [(7, .int (1)), (4, .int (y35)), (0, .ref (x0)), (1, .int (x1)), (3, .int (x3)), (5, .int (x5)), (6, .int (x6)), (8, .int (x8))] dX12_needs_109 (by decide) rfl ?_
      exact zx_lv [2, 3, 4, 1, 5, 6, 0, 7] [(0, .ref (x0)), (1, .int (x1)), (3, .int (x3)), (4, .int (y35)), (5, .int (x5)), (6, .int (x6)), (7, .int (1)), (8, .int (x8))] rfl (j_X12_needs_111 C htab hin hrc43   hm)
  · replace hm := in_e hm c22
    refine zx_goto C 145 dX12_needs_97 (by decide) ?_
    exact zx_lv [0, 1, 2, 3, 4, 5, 6, 7] [(0, .ref (x0)), (1, .int (x1)), (3, .int (x3)), (4, .int (x4)), (5, .int (x5)), (6, .int (x6)), (7, .int (x7)), (8, .int (x8))] rfl (j_X12_needs_145 C htab hin hrc43   hm)
set_option maxRecDepth 100000 in
set_option maxHeartbeats 1000000 in
theorem l_X12_needs_43 {p : Program} {l : Launch} {e : Env} {s : State} {m : MethodId} {args : Array Value} {below : List Frame} {meth : Method} {c : Code} {D : va_G} {aC : Nat → ClassId} {b0 fu : Nat} {σ0 τ : tM} {v : Int32}  (C : tCx p l s m args meth c yX12_needs.cls cX12_needs 10 (some .int) D aC b0 σ0) (htab : ∀ x ∈ c.exceptionTable.toList, False) (hin : meth.name = yX12_needs.name)  : ∀ (n : Nat) (x0 : Nat) (x1 : Int32) (x3 : Int32) (x4 : Int32) (x5 : Int32) (x6 : Int32) (x7 : Int32) (x8 : Int32) (σ : tM), L_X12_needs_43 b0 fu  n x0 x1 x3 x4 x5 x6 x7 x8 σ = some (v, τ) → tX p l e s m args below meth c 10 4 89 D aC b0 σ0 (.inl (some (.int v))) τ 43 [(0, .ref (x0)), (1, .int (x1)), (3, .int (x3)), (4, .int (x4)), (5, .int (x5)), (6, .int (x6)), (7, .int (x7)), (8, .int (x8))] [] σ := by
  intro n
  induction n with
  | zero => intro x0 x1 x3 x4 x5 x6 x7 x8 σ hm; unfold L_X12_needs_43 at hm; cases hm
  | succ n ih =>
    intro x0 x1 x3 x4 x5 x6 x7 x8 σ hm
    unfold L_X12_needs_43 at hm
    obtain ⟨rc43, hrc⟩ : ∃ z, z = L_X12_needs_43 b0 fu  n := ⟨_, rfl⟩
    replace hm := ltb_e hm hrc
    rw [← hrc] at ih
    have hrc43 := ih
    clear ih hrc
    refine zx_iload C dX12_needs_43 7 rfl ?_
    refine zx_iload_n C dX12_needs_45 2 rfl ?_
    refine zx_icmp_gt C 151 dX12_needs_46 (by decide) (fun c13 => ?_) (fun c13 => ?_)
    · replace hm := ip_e hm c13
      refine zx_iload C dX12_needs_151 3 rfl ?_
      obtain ⟨rfl, rfl⟩ := ret_e hm
      exact zx_iret C rfl rfl rfl dX12_needs_153
    · replace hm := in_e hm c13
      refine zx_aload_n C dX12_needs_49 0 rfl ?_
      refine zx_iload_n C dX12_needs_50 1 rfl ?_
      refine zx_iload C dX12_needs_51 7 rfl ?_
      obtain ⟨k14, i15, hm⟩ := ckO_e hm
      obtain ⟨v16, ρ17, h18, hm⟩ := cll_e hm
      refine zx_callV (σ := σ) C [.int (x1), .int (x8)] tC_11 k14 i15 Y_X12_has W_8_60 W_8_62 Wp_85 (c_X12_has h18) (by decide) (by decide) rfl (Nat.le_of_ble_eq_true rfl) dX12_needs_53 rfl ?_
      refine zx_if_eq C 62 dX12_needs_56 (by decide) (fun c19 => ?_) (fun c19 => ?_)
      · replace hm := ip_e hm c19
        obtain ⟨y20, hy20⟩ : ∃ z : Int32, z = (x4) + Int32.ofInt 1 := ⟨_, rfl⟩
        replace hm := ltb_e hm hy20
        refine zx_iinc C [(4, .int (y20)), (0, .ref (x0)), (1, .int (x1)), (3, .int (x3)), (5, .int (x5)), (6, .int (x6)), (7, .int (x7)), (8, .int (x8))] dX12_needs_62 3 rfl hy20.symm (by decide) rfl ?_
        refine zx_iload C dX12_needs_65 7 rfl ?_
        refine zx_bipush (v := 8) C dX12_needs_67 (by decide) ?_
        refine zx_icmp_lt C 90 dX12_needs_69 (by decide) (fun c21 => ?_) (fun c21 => ?_)
        · replace hm := ip_e hm c21
          exact zx_lv [1, 2, 3, 0, 4, 5, 6, 7] [(0, .ref (x0)), (1, .int (x1)), (3, .int (x3)), (4, .int (y20)), (5, .int (x5)), (6, .int (x6)), (7, .int (x7)), (8, .int (x8))] rfl (j_X12_needs_90 C htab hin hrc43   hm)
        · replace hm := in_e hm c21
          refine zx_iload C dX12_needs_72 7 rfl ?_
          refine zx_bipush (v := 40) C dX12_needs_74 (by decide) ?_
          refine zx_icmp_ge C 90 dX12_needs_76 (by decide) (fun c36 => ?_) (fun c36 => ?_)
          · replace hm := ip_e hm c36
            exact zx_lv [1, 2, 3, 0, 4, 5, 6, 7] [(0, .ref (x0)), (1, .int (x1)), (3, .int (x3)), (4, .int (y20)), (5, .int (x5)), (6, .int (x6)), (7, .int (x7)), (8, .int (x8))] rfl (j_X12_needs_90 C htab hin hrc43   hm)
          · replace hm := in_e hm c36
            refine zx_iload C dX12_needs_79 5 rfl ?_
            refine zx_if_ne C 90 dX12_needs_81 (by decide) (fun c37 => ?_) (fun c37 => ?_)
            · replace hm := in_e hm c37
              exact zx_lv [1, 2, 3, 0, 4, 5, 6, 7] [(0, .ref (x0)), (1, .int (x1)), (3, .int (x3)), (4, .int (y20)), (5, .int (x5)), (6, .int (x6)), (7, .int (x7)), (8, .int (x8))] rfl (j_X12_needs_90 C htab hin hrc43   hm)
            · replace hm := ip_e hm c37
              obtain ⟨y38, hy38⟩ : ∃ z : Int32, z = (y20) + Int32.ofInt 1 := ⟨_, rfl⟩
              replace hm := ltb_e hm hy38
              refine zx_iinc C [(4, .int (y38)), (0, .ref (x0)), (1, .int (x1)), (3, .int (x3)), (5, .int (x5)), (6, .int (x6)), (7, .int (x7)), (8, .int (x8))] dX12_needs_84 0 rfl hy38.symm (by decide) rfl ?_
              refine zx_iconst (v := 1) C dX12_needs_87 (by decide) ?_
              refine zx_istore C [(6, .int (1)), (4, .int (y38)), (0, .ref (x0)), (1, .int (x1)), (3, .int (x3)), (5, .int (x5)), (7, .int (x7)), (8, .int (x8))] dX12_needs_88 (by decide) rfl ?_
              exact zx_lv [2, 3, 4, 1, 5, 0, 6, 7] [(0, .ref (x0)), (1, .int (x1)), (3, .int (x3)), (4, .int (y38)), (5, .int (x5)), (6, .int (1)), (7, .int (x7)), (8, .int (x8))] rfl (j_X12_needs_90 C htab hin hrc43   hm)
      · replace hm := in_e hm c19
        refine zx_goto C 145 dX12_needs_59 (by decide) ?_
        exact zx_lv [0, 1, 2, 3, 4, 5, 6, 7] [(0, .ref (x0)), (1, .int (x1)), (3, .int (x3)), (4, .int (x4)), (5, .int (x5)), (6, .int (x6)), (7, .int (x7)), (8, .int (x8))] rfl (j_X12_needs_145 C htab hin hrc43   hm)
set_option maxRecDepth 100000 in
set_option maxHeartbeats 1000000 in
theorem j_X12_needs_38 {p : Program} {l : Launch} {e : Env} {s : State} {m : MethodId} {args : Array Value} {below : List Frame} {meth : Method} {c : Code} {D : va_G} {aC : Nat → ClassId} {b0 fu : Nat} {σ0 τ : tM} {v : Int32}  (C : tCx p l s m args meth c yX12_needs.cls cX12_needs 10 (some .int) D aC b0 σ0) (htab : ∀ x ∈ c.exceptionTable.toList, False) (hin : meth.name = yX12_needs.name)  {x0 : Nat} {x1 : Int32} {x2 : Int32} {x3 : Int32} {x4 : Int32} {x5 : Int32} {x6 : Int32} {s0 : Int32} {σ : tM} (hm : J_X12_needs_38 b0 fu  x0 x1 x2 x3 x4 x5 x6 s0 σ = some (v, τ)) : tX p l e s m args below meth c 10 4 89 D aC b0 σ0 (.inl (some (.int v))) τ 38 [(0, .ref (x0)), (1, .int (x1)), (2, .int (x2)), (3, .int (x3)), (4, .int (x4)), (5, .int (x5)), (6, .int (x6))] [.int (s0)] σ := by
  unfold J_X12_needs_38 at hm
  refine zx_istore C [(7, .int (s0)), (0, .ref (x0)), (1, .int (x1)), (2, .int (x2)), (3, .int (x3)), (4, .int (x4)), (5, .int (x5)), (6, .int (x6))] dX12_needs_38 (by decide) rfl ?_
  refine zx_iload_n C dX12_needs_40 3 rfl ?_
  refine zx_istore C [(8, .int (x2)), (7, .int (s0)), (0, .ref (x0)), (1, .int (x1)), (2, .int (x2)), (3, .int (x3)), (4, .int (x4)), (5, .int (x5)), (6, .int (x6))] dX12_needs_41 (by decide) rfl ?_
  exact zx_lv [2, 3, 5, 6, 7, 8, 1, 0] [(0, .ref (x0)), (1, .int (x1)), (3, .int (x3)), (4, .int (x4)), (5, .int (x5)), (6, .int (x6)), (7, .int (s0)), (8, .int (x2))] rfl (l_X12_needs_43 C htab hin  _ _ _ _ _ _ _ _ _ _ hm)
set_option maxRecDepth 100000 in
set_option maxHeartbeats 1000000 in
theorem j_X12_needs_21 {p : Program} {l : Launch} {e : Env} {s : State} {m : MethodId} {args : Array Value} {below : List Frame} {meth : Method} {c : Code} {D : va_G} {aC : Nat → ClassId} {b0 fu : Nat} {σ0 τ : tM} {v : Int32}  (C : tCx p l s m args meth c yX12_needs.cls cX12_needs 10 (some .int) D aC b0 σ0) (htab : ∀ x ∈ c.exceptionTable.toList, False) (hin : meth.name = yX12_needs.name)  {x0 : Nat} {x1 : Int32} {x2 : Int32} {x3 : Int32} {x4 : Int32} {x5 : Int32} {s0 : Int32} {σ : tM} (hm : J_X12_needs_21 b0 fu  x0 x1 x2 x3 x4 x5 s0 σ = some (v, τ)) : tX p l e s m args below meth c 10 4 89 D aC b0 σ0 (.inl (some (.int v))) τ 21 [(0, .ref (x0)), (1, .int (x1)), (2, .int (x2)), (3, .int (x3)), (4, .int (x4)), (5, .int (x5))] [.int (s0)] σ := by
  unfold J_X12_needs_21 at hm
  refine zx_istore C [(6, .int (s0)), (0, .ref (x0)), (1, .int (x1)), (2, .int (x2)), (3, .int (x3)), (4, .int (x4)), (5, .int (x5))] dX12_needs_21 (by decide) rfl ?_
  refine zx_aload_n C dX12_needs_23 1 rfl ?_
  refine zx_iload_n C dX12_needs_24 2 rfl ?_
  refine zx_bipush (v := 94) C dX12_needs_25 (by decide) ?_
  obtain ⟨k7, i8, hm⟩ := ckO_e hm
  obtain ⟨v9, ρ10, h11, hm⟩ := cll_e hm
  refine zx_callV (σ := σ) C [.int (x1), .int (94)] tC_11 k7 i8 Y_X12_node W_8_40 W_8_42 Wp_80 (c_X12_node h11) (by decide) (by decide) rfl (Nat.le_of_ble_eq_true rfl) dX12_needs_27 rfl ?_
  refine zx_if_eq C 37 dX12_needs_30 (by decide) (fun c12 => ?_) (fun c12 => ?_)
  · replace hm := ip_e hm c12
    refine zx_iconst (v := 0) C dX12_needs_37 (by decide) ?_
    exact zx_lv [1, 2, 3, 4, 5, 6, 0] [(0, .ref (x0)), (1, .int (x1)), (2, .int (x2)), (3, .int (x3)), (4, .int (x4)), (5, .int (x5)), (6, .int (s0))] rfl (j_X12_needs_38 C htab hin    hm)
  · replace hm := in_e hm c12
    refine zx_iconst (v := 1) C dX12_needs_33 (by decide) ?_
    refine zx_goto C 38 dX12_needs_34 (by decide) ?_
    exact zx_lv [1, 2, 3, 4, 5, 6, 0] [(0, .ref (x0)), (1, .int (x1)), (2, .int (x2)), (3, .int (x3)), (4, .int (x4)), (5, .int (x5)), (6, .int (s0))] rfl (j_X12_needs_38 C htab hin    hm)
set_option maxRecDepth 100000 in
set_option maxHeartbeats 1000000 in
theorem c_X12_needs {l : Launch} {D : va_G} {aC : Nat → ClassId} {b0 fu : Nat} {a0 : Nat} {p0 : Int32} {p1 : Int32} {p2 : Int32} {σ τ : tM} {v : Int32} (hm : m_X12_needs b0 fu a0 p0 p1 p2 σ = some (v, τ)) : tMt l D aC b0 yX12_needs (Cond.code yX12_needs cX12_needs 10 (some .int)) 4 89 [.ref (a0), .int (p0), .int (p1), .int (p2)] σ (.inl (some (.int v))) τ := by
  unfold m_X12_needs at hm
  obtain ⟨hg, hm⟩ := grw_e hm
  refine tMt_of (n := 0) rfl (Nat.le_of_ble_eq_true rfl) hg ?_
  intro p e s m below meth c C htab hin
  refine zx_lv [0, 1, 2, 3] [(0, .ref (a0)), (1, .int (p0)), (2, .int (p1)), (3, .int (p2))] rfl ?_
  refine zx_iconst (v := 0) C dX12_needs_0 (by decide) ?_
  refine zx_istore C [(4, .int (0)), (0, .ref (a0)), (1, .int (p0)), (2, .int (p1)), (3, .int (p2))] dX12_needs_1 (by decide) rfl ?_
  refine zx_iconst (v := (-1)) C dX12_needs_3 (by decide) ?_
  refine zx_istore C [(5, .int ((-1))), (4, .int (0)), (0, .ref (a0)), (1, .int (p0)), (2, .int (p1)), (3, .int (p2))] dX12_needs_4 (by decide) rfl ?_
  refine zx_aload_n C dX12_needs_6 2 rfl ?_
  refine zx_iload_n C dX12_needs_7 3 rfl ?_
  refine zx_bipush (v := 93) C dX12_needs_8 (by decide) ?_
  obtain ⟨k1, i2, hm⟩ := ckO_e hm
  obtain ⟨v3, ρ4, h5, hm⟩ := cll_e hm
  refine zx_callV (σ := σ) C [.int (p0), .int (93)] tC_11 k1 i2 Y_X12_node W_8_40 W_8_42 Wp_80 (c_X12_node h5) (by decide) (by decide) rfl (Nat.le_of_ble_eq_true rfl) dX12_needs_10 rfl ?_
  refine zx_if_eq C 20 dX12_needs_13 (by decide) (fun c6 => ?_) (fun c6 => ?_)
  · replace hm := ip_e hm c6
    refine zx_iconst (v := 0) C dX12_needs_20 (by decide) ?_
    exact zx_lv [2, 3, 4, 5, 1, 0] [(0, .ref (a0)), (1, .int (p0)), (2, .int (p1)), (3, .int (p2)), (4, .int (0)), (5, .int ((-1)))] rfl (j_X12_needs_21 C htab hin    hm)
  · replace hm := in_e hm c6
    refine zx_iconst (v := 1) C dX12_needs_16 (by decide) ?_
    refine zx_goto C 21 dX12_needs_17 (by decide) ?_
    exact zx_lv [2, 3, 4, 5, 1, 0] [(0, .ref (a0)), (1, .int (p0)), (2, .int (p1)), (3, .int (p2)), (4, .int (0)), (5, .int ((-1)))] rfl (j_X12_needs_21 C htab hin    hm)
abbrev cX12_isEmpty : ByteArray := prog_13_method_40_code
def yX12_isEmpty : MethodName := ⟨"SyncTreeModel", "isEmpty", "(I)Z"⟩
theorem Y_X12_isEmpty : tY yX12_isEmpty cX12_isEmpty 3 (some .boolean) 1 := ⟨W_8_178, W_1_14, ⟨by decide +kernel, by decide +kernel⟩, by decide +kernel⟩
theorem dX12_isEmpty_0 : decode cX12_isEmpty 0 = .ok (.iconst 0, 1) := by decide +kernel
theorem dX12_isEmpty_1 : decode cX12_isEmpty 1 = .ok (.istore_n 2, 1) := by decide +kernel
theorem dX12_isEmpty_2 : decode cX12_isEmpty 2 = .ok (.iload_n 2, 1) := by decide +kernel
theorem dX12_isEmpty_3 : decode cX12_isEmpty 3 = .ok (.bipush 32, 2) := by decide +kernel
theorem dX12_isEmpty_5 : decode cX12_isEmpty 5 = .ok (.if_icmp .ge 20, 3) := by decide +kernel
theorem dX12_isEmpty_8 : decode cX12_isEmpty 8 = .ok (.aload_n 0, 1) := by decide +kernel
theorem dX12_isEmpty_9 : decode cX12_isEmpty 9 = .ok (.iload_n 1, 1) := by decide +kernel
theorem dX12_isEmpty_10 : decode cX12_isEmpty 10 = .ok (.iload_n 2, 1) := by decide +kernel
theorem dX12_isEmpty_11 : decode cX12_isEmpty 11 = .ok (.invokevirtual 250, 3) := by decide +kernel
theorem dX12_isEmpty_14 : decode cX12_isEmpty 14 = .ok (.ifCond .eq 5, 3) := by decide +kernel
theorem dX12_isEmpty_17 : decode cX12_isEmpty 17 = .ok (.iconst 0, 1) := by decide +kernel
theorem dX12_isEmpty_18 : decode cX12_isEmpty 18 = .ok (.ireturn, 1) := by decide +kernel
theorem dX12_isEmpty_19 : decode cX12_isEmpty 19 = .ok (.iinc 2 1, 3) := by decide +kernel
theorem dX12_isEmpty_22 : decode cX12_isEmpty 22 = .ok (.goto (-20), 3) := by decide +kernel
theorem dX12_isEmpty_25 : decode cX12_isEmpty 25 = .ok (.iconst 1, 1) := by decide +kernel
theorem dX12_isEmpty_26 : decode cX12_isEmpty 26 = .ok (.ireturn, 1) := by decide +kernel
def L_X12_isEmpty_2 (b0 fu : Nat)  : Nat → Nat → Int32 → Int32 → tM → Option ((Int32) × tM)
  | 0, _, _, _, _ => none
  | n + 1, x0, x1, x2, σ => ltb (L_X12_isEmpty_2 b0 fu  n) (fun rc2 => if (32) ≤ (x2) then some (1, σ) else ckO b0 (σ) (x0) 11 (cll (m_X12_pointer b0 fu (x0) (x1) (x2) (σ)) (fun v4 ρ5 => if (v4) = (0) then ltb ((x2) + Int32.ofInt 1) (fun y8 => rc2 (x0) (x1) (y8) (ρ5)) else some (0, ρ5))))
def m_X12_isEmpty (b0 fu : Nat) (a0 : Nat) (p0 : Int32) (σ : tM) : Option ((Int32) × tM) := grw σ (L_X12_isEmpty_2 b0 fu  (fu) (a0) (p0) (0) (σ))
set_option maxRecDepth 100000 in
set_option maxHeartbeats 1000000 in
theorem l_X12_isEmpty_2 {p : Program} {l : Launch} {e : Env} {s : State} {m : MethodId} {args : Array Value} {below : List Frame} {meth : Method} {c : Code} {D : va_G} {aC : Nat → ClassId} {b0 fu : Nat} {σ0 τ : tM} {v : Int32}  (C : tCx p l s m args meth c yX12_isEmpty.cls cX12_isEmpty 3 (some .boolean) D aC b0 σ0) (htab : ∀ x ∈ c.exceptionTable.toList, False) (hin : meth.name = yX12_isEmpty.name)  : ∀ (n : Nat) (x0 : Nat) (x1 : Int32) (x2 : Int32) (σ : tM), L_X12_isEmpty_2 b0 fu  n x0 x1 x2 σ = some (v, τ) → tX p l e s m args below meth c 3 2 43 D aC b0 σ0 (.inl (some (.int v))) τ 2 [(0, .ref (x0)), (1, .int (x1)), (2, .int (x2))] [] σ := by
  intro n
  induction n with
  | zero => intro x0 x1 x2 σ hm; unfold L_X12_isEmpty_2 at hm; cases hm
  | succ n ih =>
    intro x0 x1 x2 σ hm
    unfold L_X12_isEmpty_2 at hm
    obtain ⟨rc2, hrc⟩ : ∃ z, z = L_X12_isEmpty_2 b0 fu  n := ⟨_, rfl⟩
    replace hm := ltb_e hm hrc
    rw [← hrc] at ih
    have hrc2 := ih
    clear ih hrc
    refine zx_iload_n C dX12_isEmpty_2 2 rfl ?_
    refine zx_bipush (v := 32) C dX12_isEmpty_3 (by decide) ?_
    refine zx_icmp_ge C 25 dX12_isEmpty_5 (by decide) (fun c1 => ?_) (fun c1 => ?_)
    · replace hm := ip_e hm c1
      refine zx_iconst (v := 1) C dX12_isEmpty_25 (by decide) ?_
      obtain ⟨rfl, rfl⟩ := ret_e hm
      exact zx_zret C rfl (by decide) rfl rfl dX12_isEmpty_26
    · replace hm := in_e hm c1
      refine zx_aload_n C dX12_isEmpty_8 0 rfl ?_
      refine zx_iload_n C dX12_isEmpty_9 1 rfl ?_
      refine zx_iload_n C dX12_isEmpty_10 2 rfl ?_
      obtain ⟨k2, i3, hm⟩ := ckO_e hm
      obtain ⟨v4, ρ5, h6, hm⟩ := cll_e hm
      refine zx_callV (σ := σ) C [.int (x1), .int (x2)] tC_11 k2 i3 Y_X12_pointer W_8_68 W_8_70 Wp_87 (c_X12_pointer h6) (by decide) (by decide) rfl (Nat.le_of_ble_eq_true rfl) dX12_isEmpty_11 rfl ?_
      refine zx_if_eq C 19 dX12_isEmpty_14 (by decide) (fun c7 => ?_) (fun c7 => ?_)
      · replace hm := ip_e hm c7
        obtain ⟨y8, hy8⟩ : ∃ z : Int32, z = (x2) + Int32.ofInt 1 := ⟨_, rfl⟩
        replace hm := ltb_e hm hy8
        refine zx_iinc C [(2, .int (y8)), (0, .ref (x0)), (1, .int (x1))] dX12_isEmpty_19 2 rfl hy8.symm (by decide) rfl ?_
        refine zx_goto C 2 dX12_isEmpty_22 (by decide) ?_
        exact zx_lv [1, 2, 0] [(0, .ref (x0)), (1, .int (x1)), (2, .int (y8))] rfl (hrc2 _ _ _ _ hm)
      · replace hm := in_e hm c7
        refine zx_iconst (v := 0) C dX12_isEmpty_17 (by decide) ?_
        obtain ⟨rfl, rfl⟩ := ret_e hm
        exact zx_zret C rfl (by decide) rfl rfl dX12_isEmpty_18
set_option maxRecDepth 100000 in
set_option maxHeartbeats 1000000 in
theorem c_X12_isEmpty {l : Launch} {D : va_G} {aC : Nat → ClassId} {b0 fu : Nat} {a0 : Nat} {p0 : Int32} {σ τ : tM} {v : Int32} (hm : m_X12_isEmpty b0 fu a0 p0 σ = some (v, τ)) : tMt l D aC b0 yX12_isEmpty (Cond.code yX12_isEmpty cX12_isEmpty 3 (some .boolean)) 2 43 [.ref (a0), .int (p0)] σ (.inl (some (.int v))) τ := by
  unfold m_X12_isEmpty at hm
  obtain ⟨hg, hm⟩ := grw_e hm
  refine tMt_of (n := 0) rfl (Nat.le_of_ble_eq_true rfl) hg ?_
  intro p e s m below meth c C htab hin
  refine zx_lv [0, 1] [(0, .ref (a0)), (1, .int (p0))] rfl ?_
  refine zx_iconst (v := 0) C dX12_isEmpty_0 (by decide) ?_
  refine zx_istore_n C [(2, .int (0)), (0, .ref (a0)), (1, .int (p0))] dX12_isEmpty_1 rfl (by decide) rfl ?_
  exact zx_lv [1, 2, 0] [(0, .ref (a0)), (1, .int (p0)), (2, .int (0))] rfl (l_X12_isEmpty_2 C htab hin  _ _ _ _ _ hm)
abbrev cX12_isOpen : ByteArray := prog_13_method_43_code
def yX12_isOpen : MethodName := ⟨"SyncTreeModel", "isOpen", "(I)Z"⟩
theorem Y_X12_isOpen : tY yX12_isOpen cX12_isOpen 3 (some .boolean) 1 := ⟨W_8_190, W_1_14, ⟨by decide +kernel, by decide +kernel⟩, by decide +kernel⟩
theorem dX12_isOpen_0 : decode cX12_isOpen 0 = .ok (.iconst 0, 1) := by decide +kernel
theorem dX12_isOpen_1 : decode cX12_isOpen 1 = .ok (.istore_n 2, 1) := by decide +kernel
theorem dX12_isOpen_2 : decode cX12_isOpen 2 = .ok (.iload_n 2, 1) := by decide +kernel
theorem dX12_isOpen_3 : decode cX12_isOpen 3 = .ok (.bipush 16, 2) := by decide +kernel
theorem dX12_isOpen_5 : decode cX12_isOpen 5 = .ok (.if_icmp .ge 21, 3) := by decide +kernel
theorem dX12_isOpen_8 : decode cX12_isOpen 8 = .ok (.aload_n 0, 1) := by decide +kernel
theorem dX12_isOpen_9 : decode cX12_isOpen 9 = .ok (.getfield 286, 3) := by decide +kernel
theorem dX12_isOpen_12 : decode cX12_isOpen 12 = .ok (.iload_n 2, 1) := by decide +kernel
theorem dX12_isOpen_13 : decode cX12_isOpen 13 = .ok (.iaload, 1) := by decide +kernel
theorem dX12_isOpen_14 : decode cX12_isOpen 14 = .ok (.iload_n 1, 1) := by decide +kernel
theorem dX12_isOpen_15 : decode cX12_isOpen 15 = .ok (.if_icmp .ne 5, 3) := by decide +kernel
theorem dX12_isOpen_18 : decode cX12_isOpen 18 = .ok (.iconst 1, 1) := by decide +kernel
theorem dX12_isOpen_19 : decode cX12_isOpen 19 = .ok (.ireturn, 1) := by decide +kernel
theorem dX12_isOpen_20 : decode cX12_isOpen 20 = .ok (.iinc 2 1, 3) := by decide +kernel
theorem dX12_isOpen_23 : decode cX12_isOpen 23 = .ok (.goto (-21), 3) := by decide +kernel
theorem dX12_isOpen_26 : decode cX12_isOpen 26 = .ok (.iconst 0, 1) := by decide +kernel
theorem dX12_isOpen_27 : decode cX12_isOpen 27 = .ok (.ireturn, 1) := by decide +kernel
def L_X12_isOpen_2 (b0 fu : Nat)  : Nat → Nat → Int32 → Int32 → tM → Option ((Int32) × tM)
  | 0, _, _, _, _ => none
  | n + 1, x0, x1, x2, σ => ltb (L_X12_isOpen_2 b0 fu  n) (fun rc2 => if (16) ≤ (x2) then some (0, σ) else ckO b0 (σ) (x0) 11 (osm (tA (σ) (x0) 58) (fun a4 => ckR b0 (σ) (a4) 0 (fun n8 => ckI (x2) (n8) (if (tI (σ) (a4) ((x2).toNatClampNeg)) = (x1) then some (1, σ) else ltb ((x2) + Int32.ofInt 1) (fun y11 => rc2 (x0) (x1) (y11) (σ)))))))
def m_X12_isOpen (b0 fu : Nat) (a0 : Nat) (p0 : Int32) (σ : tM) : Option ((Int32) × tM) := grw σ (L_X12_isOpen_2 b0 fu  (fu) (a0) (p0) (0) (σ))
set_option maxRecDepth 100000 in
set_option maxHeartbeats 1000000 in
theorem l_X12_isOpen_2 {p : Program} {l : Launch} {e : Env} {s : State} {m : MethodId} {args : Array Value} {below : List Frame} {meth : Method} {c : Code} {D : va_G} {aC : Nat → ClassId} {b0 fu : Nat} {σ0 τ : tM} {v : Int32}  (C : tCx p l s m args meth c yX12_isOpen.cls cX12_isOpen 3 (some .boolean) D aC b0 σ0) (htab : ∀ x ∈ c.exceptionTable.toList, False) (hin : meth.name = yX12_isOpen.name)  : ∀ (n : Nat) (x0 : Nat) (x1 : Int32) (x2 : Int32) (σ : tM), L_X12_isOpen_2 b0 fu  n x0 x1 x2 σ = some (v, τ) → tX p l e s m args below meth c 3 0 0 D aC b0 σ0 (.inl (some (.int v))) τ 2 [(0, .ref (x0)), (1, .int (x1)), (2, .int (x2))] [] σ := by
  intro n
  induction n with
  | zero => intro x0 x1 x2 σ hm; unfold L_X12_isOpen_2 at hm; cases hm
  | succ n ih =>
    intro x0 x1 x2 σ hm
    unfold L_X12_isOpen_2 at hm
    obtain ⟨rc2, hrc⟩ : ∃ z, z = L_X12_isOpen_2 b0 fu  n := ⟨_, rfl⟩
    replace hm := ltb_e hm hrc
    rw [← hrc] at ih
    have hrc2 := ih
    clear ih hrc
    refine zx_iload_n C dX12_isOpen_2 2 rfl ?_
    refine zx_bipush (v := 16) C dX12_isOpen_3 (by decide) ?_
    refine zx_icmp_ge C 26 dX12_isOpen_5 (by decide) (fun c1 => ?_) (fun c1 => ?_)
    · replace hm := ip_e hm c1
      refine zx_iconst (v := 0) C dX12_isOpen_26 (by decide) ?_
      obtain ⟨rfl, rfl⟩ := ret_e hm
      exact zx_zret C rfl (by decide) rfl rfl dX12_isOpen_27
    · replace hm := in_e hm c1
      refine zx_aload_n C dX12_isOpen_8 0 rfl ?_
      obtain ⟨k2, i3, hm⟩ := ckO_e hm
      obtain ⟨a4, h5, hm⟩ := osm_e hm
      refine zx_get (j := 58) C tC_11 k2 i3 ⟨by decide, Or.inl W_7_37⟩ dX12_isOpen_9 (.ref a4) (rf_s h5) ?_
      refine zx_iload_n C dX12_isOpen_12 2 rfl ?_
      obtain ⟨n8, k6, i7, hm⟩ := ckR_e hm
      obtain ⟨h9, hm⟩ := ckI_e hm
      refine zx_iald C k6 i7 h9 dX12_isOpen_13 ?_
      refine zx_iload_n C dX12_isOpen_14 1 rfl ?_
      refine zx_icmp_ne C 20 dX12_isOpen_15 (by decide) (fun c10 => ?_) (fun c10 => ?_)
      · replace hm := in_e hm c10
        obtain ⟨y11, hy11⟩ : ∃ z : Int32, z = (x2) + Int32.ofInt 1 := ⟨_, rfl⟩
        replace hm := ltb_e hm hy11
        refine zx_iinc C [(2, .int (y11)), (0, .ref (x0)), (1, .int (x1))] dX12_isOpen_20 2 rfl hy11.symm (by decide) rfl ?_
        refine zx_goto C 2 dX12_isOpen_23 (by decide) ?_
        exact zx_lv [1, 2, 0] [(0, .ref (x0)), (1, .int (x1)), (2, .int (y11))] rfl (hrc2 _ _ _ _ hm)
      · replace hm := ip_e hm c10
        refine zx_iconst (v := 1) C dX12_isOpen_18 (by decide) ?_
        obtain ⟨rfl, rfl⟩ := ret_e hm
        exact zx_zret C rfl (by decide) rfl rfl dX12_isOpen_19
set_option maxRecDepth 100000 in
set_option maxHeartbeats 1000000 in
theorem c_X12_isOpen {l : Launch} {D : va_G} {aC : Nat → ClassId} {b0 fu : Nat} {a0 : Nat} {p0 : Int32} {σ τ : tM} {v : Int32} (hm : m_X12_isOpen b0 fu a0 p0 σ = some (v, τ)) : tMt l D aC b0 yX12_isOpen (Cond.code yX12_isOpen cX12_isOpen 3 (some .boolean)) 0 0 [.ref (a0), .int (p0)] σ (.inl (some (.int v))) τ := by
  unfold m_X12_isOpen at hm
  obtain ⟨hg, hm⟩ := grw_e hm
  refine tMt_of (n := 0) rfl (Nat.le_of_ble_eq_true rfl) hg ?_
  intro p e s m below meth c C htab hin
  refine zx_lv [0, 1] [(0, .ref (a0)), (1, .int (p0))] rfl ?_
  refine zx_iconst (v := 0) C dX12_isOpen_0 (by decide) ?_
  refine zx_istore_n C [(2, .int (0)), (0, .ref (a0)), (1, .int (p0))] dX12_isOpen_1 rfl (by decide) rfl ?_
  exact zx_lv [1, 2, 0] [(0, .ref (a0)), (1, .int (p0)), (2, .int (0))] rfl (l_X12_isOpen_2 C htab hin  _ _ _ _ _ hm)
