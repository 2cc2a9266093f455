abbrev cX12_versions : ByteArray := prog_13_method_109_code
def yX12_versions : MethodName := ⟨"SyncTreeModel", "versions", "(I)I"⟩
theorem Y_X12_versions : tY yX12_versions cX12_versions 4 (some .int) 1 := ⟨W_9_79, W_1_14, ⟨by decide +kernel, by decide +kernel⟩, by decide +kernel⟩
theorem dX12_versions_0 : decode cX12_versions 0 = .ok (.aload_n 0, 1) := by decide +kernel
theorem dX12_versions_1 : decode cX12_versions 1 = .ok (.iconst 0, 1) := by decide +kernel
theorem dX12_versions_2 : decode cX12_versions 2 = .ok (.putfield 3, 3) := by decide +kernel
theorem dX12_versions_5 : decode cX12_versions 5 = .ok (.iload_n 1, 1) := by decide +kernel
theorem dX12_versions_6 : decode cX12_versions 6 = .ok (.ifCond .lt 11, 3) := by decide +kernel
theorem dX12_versions_9 : decode cX12_versions 9 = .ok (.iload_n 1, 1) := by decide +kernel
theorem dX12_versions_10 : decode cX12_versions 10 = .ok (.aload_n 0, 1) := by decide +kernel
theorem dX12_versions_11 : decode cX12_versions 11 = .ok (.invokevirtual 164, 3) := by decide +kernel
theorem dX12_versions_14 : decode cX12_versions 14 = .ok (.if_icmp .lt 6, 3) := by decide +kernel
theorem dX12_versions_17 : decode cX12_versions 17 = .ok (.bipush (-9), 2) := by decide +kernel
theorem dX12_versions_19 : decode cX12_versions 19 = .ok (.ireturn, 1) := by decide +kernel
theorem dX12_versions_20 : decode cX12_versions 20 = .ok (.iconst 0, 1) := by decide +kernel
theorem dX12_versions_21 : decode cX12_versions 21 = .ok (.istore_n 2, 1) := by decide +kernel
theorem dX12_versions_22 : decode cX12_versions 22 = .ok (.iconst 0, 1) := by decide +kernel
theorem dX12_versions_23 : decode cX12_versions 23 = .ok (.istore_n 3, 1) := by decide +kernel
theorem dX12_versions_24 : decode cX12_versions 24 = .ok (.iload_n 3, 1) := by decide +kernel
theorem dX12_versions_25 : decode cX12_versions 25 = .ok (.aload_n 0, 1) := by decide +kernel
theorem dX12_versions_26 : decode cX12_versions 26 = .ok (.getfield 93, 3) := by decide +kernel
theorem dX12_versions_29 : decode cX12_versions 29 = .ok (.if_icmp .ge 31, 3) := by decide +kernel
theorem dX12_versions_32 : decode cX12_versions 32 = .ok (.aload_n 0, 1) := by decide +kernel
theorem dX12_versions_33 : decode cX12_versions 33 = .ok (.getfield 65, 3) := by decide +kernel
theorem dX12_versions_36 : decode cX12_versions 36 = .ok (.aload_n 0, 1) := by decide +kernel
theorem dX12_versions_37 : decode cX12_versions 37 = .ok (.getfield 87, 3) := by decide +kernel
theorem dX12_versions_40 : decode cX12_versions 40 = .ok (.iload_n 3, 1) := by decide +kernel
theorem dX12_versions_41 : decode cX12_versions 41 = .ok (.iadd, 1) := by decide +kernel
theorem dX12_versions_42 : decode cX12_versions 42 = .ok (.sipush 256, 3) := by decide +kernel
theorem dX12_versions_45 : decode cX12_versions 45 = .ok (.irem, 1) := by decide +kernel
theorem dX12_versions_46 : decode cX12_versions 46 = .ok (.iaload, 1) := by decide +kernel
theorem dX12_versions_47 : decode cX12_versions 47 = .ok (.iload_n 1, 1) := by decide +kernel
theorem dX12_versions_48 : decode cX12_versions 48 = .ok (.if_icmp .ne 6, 3) := by decide +kernel
theorem dX12_versions_51 : decode cX12_versions 51 = .ok (.iinc 2 1, 3) := by decide +kernel
theorem dX12_versions_54 : decode cX12_versions 54 = .ok (.iinc 3 1, 3) := by decide +kernel
theorem dX12_versions_57 : decode cX12_versions 57 = .ok (.goto (-33), 3) := by decide +kernel
theorem dX12_versions_60 : decode cX12_versions 60 = .ok (.iload_n 2, 1) := by decide +kernel
theorem dX12_versions_61 : decode cX12_versions 61 = .ok (.ireturn, 1) := by decide +kernel
def J_X12_versions_17 (b0 fu : Nat)   (σ : tM) : Option ((Int32) × tM) := some ((-9), σ)
def J_X12_versions_54 (b0 fu : Nat) (rc24 : Nat → Int32 → Int32 → Int32 → tM → Option ((Int32) × tM)) (x0 : Nat) (x1 : Int32) (x2 : Int32) (x3 : Int32) (σ : tM) : Option ((Int32) × tM) := ltb ((x3) + Int32.ofInt 1) (fun y18 => rc24 (x0) (x1) (x2) (y18) (σ))
def L_X12_versions_24 (b0 fu : Nat)  : Nat → Nat → Int32 → Int32 → Int32 → tM → Option ((Int32) × tM)
  | 0, _, _, _, _, _ => none
  | n + 1, x0, x1, x2, x3, σ => ltb (L_X12_versions_24 b0 fu  n) (fun rc24 => ckO b0 (σ) (x0) 11 (if (tI (σ) (x0) 16) ≤ (x3) then some (x2, σ) else osm (tA (σ) (x0) 11) (fun a11 => ckR b0 (σ) (a11) 0 (fun n15 => ckI (((tI (σ) (x0) 15) + (x3)) - ((tI (σ) (x0) 15) + (x3)) / (256) * (256)) (n15) (if (tI (σ) (a11) ((((tI (σ) (x0) 15) + (x3)) - ((tI (σ) (x0) 15) + (x3)) / (256) * (256)).toNatClampNeg)) = (x1) then ltb ((x2) + Int32.ofInt 1) (fun y19 => J_X12_versions_54 b0 fu rc24  (x0) (x1) (y19) (x3) (σ)) else J_X12_versions_54 b0 fu rc24  (x0) (x1) (x2) (x3) (σ))))))
def m_X12_versions (b0 fu : Nat) (a0 : Nat) (p0 : Int32) (σ : tM) : Option ((Int32) × tM) := grw σ (ckO b0 (σ) (a0) 11 (if (p0) < (0) then J_X12_versions_17 b0 fu    (sI (σ) (a0) 0 (0)) else cll (m_X12_blocks b0 fu (a0) (sI (σ) (a0) 0 (0))) (fun v4 ρ5 => if (p0) < (v4) then L_X12_versions_24 b0 fu  (fu) (a0) (p0) (0) (0) (ρ5) else J_X12_versions_17 b0 fu    (ρ5))))
set_option maxRecDepth 100000 in
set_option maxHeartbeats 1000000 in
theorem j_X12_versions_17 {p : Program} {l : Launch} {e : Env} {s : State} {m : MethodId} {args : Array Value} {below : List Frame} {meth : Method} {c : Code} {D : va_G} {aC : Nat → ClassId} {b0 fu : Nat} {σ0 τ : tM} {v : Int32}  (C : tCx p l s m args meth c yX12_versions.cls cX12_versions 4 (some .int) D aC b0 σ0) (htab : ∀ x ∈ c.exceptionTable.toList, False) (hin : meth.name = yX12_versions.name)   {σ : tM} (hm : J_X12_versions_17 b0 fu   σ = some (v, τ)) : tX p l e s m args below meth c 4 1 20 D aC b0 σ0 (.inl (some (.int v))) τ 17 [] [] σ := by
  unfold J_X12_versions_17 at hm
  refine zx_bipush (v := (-9)) C dX12_versions_17 (by decide) ?_
  obtain ⟨rfl, rfl⟩ := ret_e hm
  exact zx_iret C rfl rfl rfl dX12_versions_19
set_option maxRecDepth 100000 in
set_option maxHeartbeats 1000000 in
theorem j_X12_versions_54 {p : Program} {l : Launch} {e : Env} {s : State} {m : MethodId} {args : Array Value} {below : List Frame} {meth : Method} {c : Code} {D : va_G} {aC : Nat → ClassId} {b0 fu : Nat} {σ0 τ : tM} {v : Int32} {rc24 : Nat → Int32 → Int32 → Int32 → tM → Option ((Int32) × tM)} (C : tCx p l s m args meth c yX12_versions.cls cX12_versions 4 (some .int) D aC b0 σ0) (htab : ∀ x ∈ c.exceptionTable.toList, False) (hin : meth.name = yX12_versions.name) (hrc24 : ∀ (x0 : Nat) (x1 : Int32) (x2 : Int32) (x3 : Int32) (ρ : tM), rc24 x0 x1 x2 x3 ρ = some (v, τ) → tX p l e s m args below meth c 4 1 20 D aC b0 σ0 (.inl (some (.int v))) τ 24 [(0, .ref (x0)), (1, .int (x1)), (2, .int (x2)), (3, .int (x3))] [] ρ) {x0 : Nat} {x1 : Int32} {x2 : Int32} {x3 : Int32} {σ : tM} (hm : J_X12_versions_54 b0 fu rc24 x0 x1 x2 x3 σ = some (v, τ)) : tX p l e s m args below meth c 4 1 20 D aC b0 σ0 (.inl (some (.int v))) τ 54 [(0, .ref (x0)), (1, .int (x1)), (2, .int (x2)), (3, .int (x3))] [] σ := by
  unfold J_X12_versions_54 at hm
  obtain ⟨y18, hy18⟩ : ∃ z : Int32, z = (x3) + Int32.ofInt 1 := ⟨_, rfl⟩
  replace hm := ltb_e hm hy18
  refine zx_iinc C [(3, .int (y18)), (0, .ref (x0)), (1, .int (x1)), (2, .int (x2))] dX12_versions_54 3 rfl hy18.symm (by decide) rfl ?_
  refine zx_goto C 24 dX12_versions_57 (by decide) ?_
  exact zx_lv [1, 2, 3, 0] [(0, .ref (x0)), (1, .int (x1)), (2, .int (x2)), (3, .int (y18))] rfl (hrc24 _ _ _ _ _ hm)
set_option maxRecDepth 100000 in
set_option maxHeartbeats 1000000 in
theorem l_X12_versions_24 {p : Program} {l : Launch} {e : Env} {s : State} {m : MethodId} {args : Array Value} {below : List Frame} {meth : Method} {c : Code} {D : va_G} {aC : Nat → ClassId} {b0 fu : Nat} {σ0 τ : tM} {v : Int32}  (C : tCx p l s m args meth c yX12_versions.cls cX12_versions 4 (some .int) D aC b0 σ0) (htab : ∀ x ∈ c.exceptionTable.toList, False) (hin : meth.name = yX12_versions.name)  : ∀ (n : Nat) (x0 : Nat) (x1 : Int32) (x2 : Int32) (x3 : Int32) (σ : tM), L_X12_versions_24 b0 fu  n x0 x1 x2 x3 σ = some (v, τ) → tX p l e s m args below meth c 4 1 20 D aC b0 σ0 (.inl (some (.int v))) τ 24 [(0, .ref (x0)), (1, .int (x1)), (2, .int (x2)), (3, .int (x3))] [] σ := by
  intro n
  induction n with
  | zero => intro x0 x1 x2 x3 σ hm; unfold L_X12_versions_24 at hm; cases hm
  | succ n ih =>
    intro x0 x1 x2 x3 σ hm
    unfold L_X12_versions_24 at hm
    obtain ⟨rc24, hrc⟩ : ∃ z, z = L_X12_versions_24 b0 fu  n := ⟨_, rfl⟩
    replace hm := ltb_e hm hrc
    rw [← hrc] at ih
    have hrc24 := ih
    clear ih hrc
    refine zx_iload_n C dX12_versions_24 3 rfl ?_
    refine zx_aload_n C dX12_versions_25 0 rfl ?_
    obtain ⟨k8, i9, hm⟩ := ckO_e hm
    refine zx_get (j := 16) C tC_11 k8 i9 ⟨by decide, Or.inl W_6_235⟩ dX12_versions_26 (.int (tI (σ) (x0) 16)) rfl ?_
    refine zx_icmp_ge C 60 dX12_versions_29 (by decide) (fun c10 => ?_) (fun c10 => ?_)
    · replace hm := ip_e hm c10
      refine zx_iload_n C dX12_versions_60 2 rfl ?_
      obtain ⟨rfl, rfl⟩ := ret_e hm
      exact zx_iret C rfl rfl rfl dX12_versions_61
    · replace hm := in_e hm c10
      refine zx_aload_n C dX12_versions_32 0 rfl ?_
      obtain ⟨a11, h12, hm⟩ := osm_e hm
      refine zx_get (j := 11) C tC_11 k8 i9 ⟨by decide, Or.inl W_6_230⟩ dX12_versions_33 (.ref a11) (rf_s h12) ?_
      refine zx_aload_n C dX12_versions_36 0 rfl ?_
      refine zx_get (j := 15) C tC_11 k8 i9 ⟨by decide, Or.inl W_6_234⟩ dX12_versions_37 (.int (tI (σ) (x0) 15)) rfl ?_
      refine zx_iload_n C dX12_versions_40 3 rfl ?_
      refine zx_iadd C dX12_versions_41 ?_
      refine zx_sipush (v := 256) C dX12_versions_42 (by decide) ?_
      refine zx_irem C dX12_versions_45 (by decide) ?_
      obtain ⟨n15, k13, i14, hm⟩ := ckR_e hm
      obtain ⟨h16, hm⟩ := ckI_e hm
      refine zx_iald C k13 i14 h16 dX12_versions_46 ?_
      refine zx_iload_n C dX12_versions_47 1 rfl ?_
      refine zx_icmp_ne C 54 dX12_versions_48 (by decide) (fun c17 => ?_) (fun c17 => ?_)
      · replace hm := in_e hm c17
        exact zx_lv [0, 1, 2, 3] [(0, .ref (x0)), (1, .int (x1)), (2, .int (x2)), (3, .int (x3))] rfl (j_X12_versions_54 C htab hin hrc24   hm)
      · replace hm := ip_e hm c17
        obtain ⟨y19, hy19⟩ : ∃ z : Int32, z = (x2) + Int32.ofInt 1 := ⟨_, rfl⟩
        replace hm := ltb_e hm hy19
        refine zx_iinc C [(2, .int (y19)), (0, .ref (x0)), (1, .int (x1)), (3, .int (x3))] dX12_versions_51 2 rfl hy19.symm (by decide) rfl ?_
        exact zx_lv [1, 2, 0, 3] [(0, .ref (x0)), (1, .int (x1)), (2, .int (y19)), (3, .int (x3))] rfl (j_X12_versions_54 C htab hin hrc24   hm)
set_option maxRecDepth 100000 in
set_option maxHeartbeats 1000000 in
theorem c_X12_versions {l : Launch} {D : va_G} {aC : Nat → ClassId} {b0 fu : Nat} {a0 : Nat} {p0 : Int32} {σ τ : tM} {v : Int32} (hm : m_X12_versions b0 fu a0 p0 σ = some (v, τ)) : tMt l D aC b0 yX12_versions (Cond.code yX12_versions cX12_versions 4 (some .int)) 1 20 [.ref (a0), .int (p0)] σ (.inl (some (.int v))) τ := by
  unfold m_X12_versions at hm
  obtain ⟨hg, hm⟩ := grw_e hm
  refine tMt_of (n := 0) rfl (Nat.le_of_ble_eq_true rfl) hg ?_
  intro p e s m below meth c C htab hin
  refine zx_lv [0, 1] [(0, .ref (a0)), (1, .int (p0))] rfl ?_
  refine zx_aload_n C dX12_versions_0 0 rfl ?_
  refine zx_iconst (v := 0) C dX12_versions_1 (by decide) ?_
  obtain ⟨k1, i2, hm⟩ := ckO_e hm
  refine zx_put (j := 0) (ρ := sI (σ) (a0) 0 (0)) C tC_11 k1 i2 ⟨by decide, Or.inl W_6_220⟩ rfl rfl rfl (sI_ok (fun _ => rfl)) dX12_versions_2 ?_
  refine zx_iload_n C dX12_versions_5 1 rfl ?_
  refine zx_if_lt C 17 dX12_versions_6 (by decide) (fun c3 => ?_) (fun c3 => ?_)
  · replace hm := ip_e hm c3
    exact zx_lv [] [] rfl (j_X12_versions_17 C htab hin    hm)
  · replace hm := in_e hm c3
    refine zx_iload_n C dX12_versions_9 1 rfl ?_
    refine zx_aload_n C dX12_versions_10 0 rfl ?_
    obtain ⟨v4, ρ5, h6, hm⟩ := cll_e hm
    refine zx_callV (σ := sI (σ) (a0) 0 (0)) C [] tC_11 k1 i2 Y_X12_blocks W_6_216 W_6_218 Wp_55 (c_X12_blocks h6) (by decide) (by decide) rfl (Nat.le_of_ble_eq_true rfl) dX12_versions_11 rfl ?_
    refine zx_icmp_lt C 20 dX12_versions_14 (by decide) (fun c7 => ?_) (fun c7 => ?_)
    · replace hm := ip_e hm c7
      refine zx_iconst (v := 0) C dX12_versions_20 (by decide) ?_
      refine zx_istore_n C [(2, .int (0)), (0, .ref (a0)), (1, .int (p0))] dX12_versions_21 rfl (by decide) rfl ?_
      refine zx_iconst (v := 0) C dX12_versions_22 (by decide) ?_
      refine zx_istore_n C [(3, .int (0)), (2, .int (0)), (0, .ref (a0)), (1, .int (p0))] dX12_versions_23 rfl (by decide) rfl ?_
      exact zx_lv [2, 3, 1, 0] [(0, .ref (a0)), (1, .int (p0)), (2, .int (0)), (3, .int (0))] rfl (l_X12_versions_24 C htab hin  _ _ _ _ _ _ hm)
    · replace hm := in_e hm c7
      exact zx_lv [] [] rfl (j_X12_versions_17 C htab hin    hm)
abbrev cX12_choose : ByteArray := prog_13_method_110_code
def yX12_choose : MethodName := ⟨"SyncTreeModel", "choose", "(II)I"⟩
theorem Y_X12_choose : tY yX12_choose cX12_choose 4 (some .int) 2 := ⟨W_9_83, W_1_14, ⟨by decide +kernel, by decide +kernel⟩, by decide +kernel⟩
theorem dX12_choose_0 : decode cX12_choose 0 = .ok (.aload_n 0, 1) := by decide +kernel
theorem dX12_choose_1 : decode cX12_choose 1 = .ok (.iconst 0, 1) := by decide +kernel
theorem dX12_choose_2 : decode cX12_choose 2 = .ok (.putfield 3, 3) := by decide +kernel
theorem dX12_choose_5 : decode cX12_choose 5 = .ok (.aload_n 0, 1) := by decide +kernel
theorem dX12_choose_6 : decode cX12_choose 6 = .ok (.getfield 58, 3) := by decide +kernel
theorem dX12_choose_9 : decode cX12_choose 9 = .ok (.ifCond .ne 15, 3) := by decide +kernel
theorem dX12_choose_12 : decode cX12_choose 12 = .ok (.iload_n 1, 1) := by decide +kernel
theorem dX12_choose_13 : decode cX12_choose 13 = .ok (.ifCond .lt 11, 3) := by decide +kernel
theorem dX12_choose_16 : decode cX12_choose 16 = .ok (.iload_n 1, 1) := by decide +kernel
theorem dX12_choose_17 : decode cX12_choose 17 = .ok (.aload_n 0, 1) := by decide +kernel
theorem dX12_choose_18 : decode cX12_choose 18 = .ok (.invokevirtual 164, 3) := by decide +kernel
theorem dX12_choose_21 : decode cX12_choose 21 = .ok (.if_icmp .lt 6, 3) := by decide +kernel
theorem dX12_choose_24 : decode cX12_choose 24 = .ok (.bipush (-9), 2) := by decide +kernel
theorem dX12_choose_26 : decode cX12_choose 26 = .ok (.ireturn, 1) := by decide +kernel
theorem dX12_choose_27 : decode cX12_choose 27 = .ok (.aload_n 0, 1) := by decide +kernel
theorem dX12_choose_28 : decode cX12_choose 28 = .ok (.iload_n 1, 1) := by decide +kernel
theorem dX12_choose_29 : decode cX12_choose 29 = .ok (.invokevirtual 468, 3) := by decide +kernel
theorem dX12_choose_32 : decode cX12_choose 32 = .ok (.istore_n 3, 1) := by decide +kernel
theorem dX12_choose_33 : decode cX12_choose 33 = .ok (.iload_n 2, 1) := by decide +kernel
theorem dX12_choose_34 : decode cX12_choose 34 = .ok (.ifCond .lt 8, 3) := by decide +kernel
theorem dX12_choose_37 : decode cX12_choose 37 = .ok (.iload_n 2, 1) := by decide +kernel
theorem dX12_choose_38 : decode cX12_choose 38 = .ok (.iload_n 3, 1) := by decide +kernel
theorem dX12_choose_39 : decode cX12_choose 39 = .ok (.if_icmp .le 6, 3) := by decide +kernel
theorem dX12_choose_42 : decode cX12_choose 42 = .ok (.bipush (-9), 2) := by decide +kernel
theorem dX12_choose_44 : decode cX12_choose 44 = .ok (.ireturn, 1) := by decide +kernel
theorem dX12_choose_45 : decode cX12_choose 45 = .ok (.aload_n 0, 1) := by decide +kernel
theorem dX12_choose_46 : decode cX12_choose 46 = .ok (.getfield 62, 3) := by decide +kernel
theorem dX12_choose_49 : decode cX12_choose 49 = .ok (.iload_n 1, 1) := by decide +kernel
theorem dX12_choose_50 : decode cX12_choose 50 = .ok (.iload_n 2, 1) := by decide +kernel
theorem dX12_choose_51 : decode cX12_choose 51 = .ok (.iastore, 1) := by decide +kernel
theorem dX12_choose_52 : decode cX12_choose 52 = .ok (.iload_n 3, 1) := by decide +kernel
theorem dX12_choose_53 : decode cX12_choose 53 = .ok (.ireturn, 1) := by decide +kernel
def J_X12_choose_24 (b0 fu : Nat)   (σ : tM) : Option ((Int32) × tM) := some ((-9), σ)
def J_X12_choose_42 (b0 fu : Nat)   (σ : tM) : Option ((Int32) × tM) := some ((-9), σ)
def m_X12_choose (b0 fu : Nat) (a0 : Nat) (p0 : Int32) (p1 : Int32) (σ : tM) : Option ((Int32) × tM) := grw σ (ckO b0 (σ) (a0) 11 (if (tI (sI (σ) (a0) 0 (0)) (a0) 18) = (0) then if (p0) < (0) then J_X12_choose_24 b0 fu    (sI (σ) (a0) 0 (0)) else cll (m_X12_blocks b0 fu (a0) (sI (σ) (a0) 0 (0))) (fun v5 ρ6 => if (p0) < (v5) then ckO b0 (ρ6) (a0) 11 (cll (m_X12_versions b0 fu (a0) (p0) (ρ6)) (fun v11 ρ12 => if (p1) < (0) then J_X12_choose_42 b0 fu    (ρ12) else if (p1) ≤ (v11) then ckO b0 (ρ12) (a0) 11 (osm (tA (ρ12) (a0) 17) (fun a18 => ckR b0 (ρ12) (a18) 0 (fun n22 => ckI (p0) (n22) (some (v11, sI (ρ12) (a18) ((p0).toNatClampNeg) (p1)))))) else J_X12_choose_42 b0 fu    (ρ12))) else J_X12_choose_24 b0 fu    (ρ6)) else J_X12_choose_24 b0 fu    (sI (σ) (a0) 0 (0))))
set_option maxRecDepth 100000 in
set_option maxHeartbeats 1000000 in
theorem j_X12_choose_24 {p : Program} {l : Launch} {e : Env} {s : State} {m : MethodId} {args : Array Value} {below : List Frame} {meth : Method} {c : Code} {D : va_G} {aC : Nat → ClassId} {b0 fu : Nat} {σ0 τ : tM} {v : Int32}  (C : tCx p l s m args meth c yX12_choose.cls cX12_choose 4 (some .int) D aC b0 σ0) (htab : ∀ x ∈ c.exceptionTable.toList, False) (hin : meth.name = yX12_choose.name)   {σ : tM} (hm : J_X12_choose_24 b0 fu   σ = some (v, τ)) : tX p l e s m args below meth c 4 2 43 D aC b0 σ0 (.inl (some (.int v))) τ 24 [] [] σ := by
  unfold J_X12_choose_24 at hm
  refine zx_bipush (v := (-9)) C dX12_choose_24 (by decide) ?_
  obtain ⟨rfl, rfl⟩ := ret_e hm
  exact zx_iret C rfl rfl rfl dX12_choose_26
set_option maxRecDepth 100000 in
set_option maxHeartbeats 1000000 in
theorem j_X12_choose_42 {p : Program} {l : Launch} {e : Env} {s : State} {m : MethodId} {args : Array Value} {below : List Frame} {meth : Method} {c : Code} {D : va_G} {aC : Nat → ClassId} {b0 fu : Nat} {σ0 τ : tM} {v : Int32}  (C : tCx p l s m args meth c yX12_choose.cls cX12_choose 4 (some .int) D aC b0 σ0) (htab : ∀ x ∈ c.exceptionTable.toList, False) (hin : meth.name = yX12_choose.name)   {σ : tM} (hm : J_X12_choose_42 b0 fu   σ = some (v, τ)) : tX p l e s m args below meth c 4 2 43 D aC b0 σ0 (.inl (some (.int v))) τ 42 [] [] σ := by
  unfold J_X12_choose_42 at hm
  refine zx_bipush (v := (-9)) C dX12_choose_42 (by decide) ?_
  obtain ⟨rfl, rfl⟩ := ret_e hm
  exact zx_iret C rfl rfl rfl dX12_choose_44
set_option maxRecDepth 100000 in
set_option maxHeartbeats 1000000 in
theorem c_X12_choose {l : Launch} {D : va_G} {aC : Nat → ClassId} {b0 fu : Nat} {a0 : Nat} {p0 : Int32} {p1 : Int32} {σ τ : tM} {v : Int32} (hm : m_X12_choose b0 fu a0 p0 p1 σ = some (v, τ)) : tMt l D aC b0 yX12_choose (Cond.code yX12_choose cX12_choose 4 (some .int)) 2 43 [.ref (a0), .int (p0), .int (p1)] σ (.inl (some (.int v))) τ := by
  unfold m_X12_choose at hm
  obtain ⟨hg, hm⟩ := grw_e hm
  refine tMt_of (n := 0) rfl (Nat.le_of_ble_eq_true rfl) hg ?_
  intro p e s m below meth c C htab hin
  refine zx_lv [0, 1, 2] [(0, .ref (a0)), (1, .int (p0)), (2, .int (p1))] rfl ?_
  refine zx_aload_n C dX12_choose_0 0 rfl ?_
  refine zx_iconst (v := 0) C dX12_choose_1 (by decide) ?_
  obtain ⟨k1, i2, hm⟩ := ckO_e hm
  refine zx_put (j := 0) (ρ := sI (σ) (a0) 0 (0)) C tC_11 k1 i2 ⟨by decide, Or.inl W_6_220⟩ rfl rfl rfl (sI_ok (fun _ => rfl)) dX12_choose_2 ?_
  refine zx_aload_n C dX12_choose_5 0 rfl ?_
  refine zx_get (j := 18) C tC_11 k1 i2 ⟨by decide, Or.inl W_6_237⟩ dX12_choose_6 (.int (tI (sI (σ) (a0) 0 (0)) (a0) 18)) rfl ?_
  refine zx_if_ne C 24 dX12_choose_9 (by decide) (fun c3 => ?_) (fun c3 => ?_)
  · replace hm := in_e hm c3
    exact zx_lv [] [] rfl (j_X12_choose_24 C htab hin    hm)
  · replace hm := ip_e hm c3
    refine zx_iload_n C dX12_choose_12 1 rfl ?_
    refine zx_if_lt C 24 dX12_choose_13 (by decide) (fun c4 => ?_) (fun c4 => ?_)
    · replace hm := ip_e hm c4
      exact zx_lv [] [] rfl (j_X12_choose_24 C htab hin    hm)
    · replace hm := in_e hm c4
      refine zx_iload_n C dX12_choose_16 1 rfl ?_
      refine zx_aload_n C dX12_choose_17 0 rfl ?_
      obtain ⟨v5, ρ6, h7, hm⟩ := cll_e hm
      refine zx_callV (σ := sI (σ) (a0) 0 (0)) C [] tC_11 k1 i2 Y_X12_blocks W_6_216 W_6_218 Wp_55 (c_X12_blocks h7) (by decide) (by decide) rfl (Nat.le_of_ble_eq_true rfl) dX12_choose_18 rfl ?_
      refine zx_icmp_lt C 27 dX12_choose_21 (by decide) (fun c8 => ?_) (fun c8 => ?_)
      · replace hm := ip_e hm c8
        refine zx_aload_n C dX12_choose_27 0 rfl ?_
        refine zx_iload_n C dX12_choose_28 1 rfl ?_
        obtain ⟨k9, i10, hm⟩ := ckO_e hm
        obtain ⟨v11, ρ12, h13, hm⟩ := cll_e hm
        refine zx_callV (σ := ρ6) C [.int (p0)] tC_11 k9 i10 Y_X12_versions W_9_84 W_9_77 W_9_78 (c_X12_versions h13) (by decide) (by decide) rfl (Nat.le_of_ble_eq_true rfl) dX12_choose_29 rfl ?_
        refine zx_istore_n C [(3, .int (v11)), (0, .ref (a0)), (1, .int (p0)), (2, .int (p1))] dX12_choose_32 rfl (by decide) rfl ?_
        refine zx_iload_n C dX12_choose_33 3 rfl ?_
        refine zx_if_lt C 42 dX12_choose_34 (by decide) (fun c14 => ?_) (fun c14 => ?_)
        · replace hm := ip_e hm c14
          exact zx_lv [] [] rfl (j_X12_choose_42 C htab hin    hm)
        · replace hm := in_e hm c14
          refine zx_iload_n C dX12_choose_37 3 rfl ?_
          refine zx_iload_n C dX12_choose_38 0 rfl ?_
          refine zx_icmp_le C 45 dX12_choose_39 (by decide) (fun c15 => ?_) (fun c15 => ?_)
          · replace hm := ip_e hm c15
            refine zx_aload_n C dX12_choose_45 1 rfl ?_
            obtain ⟨k16, i17, hm⟩ := ckO_e hm
            obtain ⟨a18, h19, hm⟩ := osm_e hm
            refine zx_get (j := 17) C tC_11 k16 i17 ⟨by decide, Or.inl W_6_236⟩ dX12_choose_46 (.ref a18) (rf_s h19) ?_
            refine zx_iload_n C dX12_choose_49 2 rfl ?_
            refine zx_iload_n C dX12_choose_50 3 rfl ?_
            obtain ⟨n22, k20, i21, hm⟩ := ckR_e hm
            obtain ⟨h23, hm⟩ := ckI_e hm
            refine zx_iast C k20 i21 h23 dX12_choose_51 ?_
            refine zx_iload_n C dX12_choose_52 0 rfl ?_
            obtain ⟨rfl, rfl⟩ := ret_e hm
            exact zx_iret C rfl rfl rfl dX12_choose_53
          · replace hm := in_e hm c15
            exact zx_lv [] [] rfl (j_X12_choose_42 C htab hin    hm)
      · replace hm := in_e hm c8
        exact zx_lv [] [] rfl (j_X12_choose_24 C htab hin    hm)
abbrev cX12_shuffle : ByteArray := prog_13_method_111_code
def yX12_shuffle : MethodName := ⟨"SyncTreeModel", "shuffle", "(J)I"⟩
theorem Y_X12_shuffle : tY yX12_shuffle cX12_shuffle 5 (some .int) 1 := ⟨W_9_88, W_1_14, ⟨by decide +kernel, by decide +kernel⟩, by decide +kernel⟩
theorem dX12_shuffle_0 : decode cX12_shuffle 0 = .ok (.aload_n 0, 1) := by decide +kernel
theorem dX12_shuffle_1 : decode cX12_shuffle 1 = .ok (.iconst 0, 1) := by decide +kernel
theorem dX12_shuffle_2 : decode cX12_shuffle 2 = .ok (.putfield 3, 3) := by decide +kernel
theorem dX12_shuffle_5 : decode cX12_shuffle 5 = .ok (.aload_n 0, 1) := by decide +kernel
theorem dX12_shuffle_6 : decode cX12_shuffle 6 = .ok (.getfield 58, 3) := by decide +kernel
theorem dX12_shuffle_9 : decode cX12_shuffle 9 = .ok (.ifCond .eq 6, 3) := by decide +kernel
theorem dX12_shuffle_12 : decode cX12_shuffle 12 = .ok (.bipush (-9), 2) := by decide +kernel
theorem dX12_shuffle_14 : decode cX12_shuffle 14 = .ok (.ireturn, 1) := by decide +kernel
theorem dX12_shuffle_15 : decode cX12_shuffle 15 = .ok (.iconst 0, 1) := by decide +kernel
theorem dX12_shuffle_16 : decode cX12_shuffle 16 = .ok (.istore_n 3, 1) := by decide +kernel
theorem dX12_shuffle_17 : decode cX12_shuffle 17 = .ok (.iload_n 3, 1) := by decide +kernel
theorem dX12_shuffle_18 : decode cX12_shuffle 18 = .ok (.aload_n 0, 1) := by decide +kernel
theorem dX12_shuffle_19 : decode cX12_shuffle 19 = .ok (.getfield 361, 3) := by decide +kernel
theorem dX12_shuffle_22 : decode cX12_shuffle 22 = .ok (.arraylength, 1) := by decide +kernel
theorem dX12_shuffle_23 : decode cX12_shuffle 23 = .ok (.if_icmp .ge 16, 3) := by decide +kernel
theorem dX12_shuffle_26 : decode cX12_shuffle 26 = .ok (.aload_n 0, 1) := by decide +kernel
theorem dX12_shuffle_27 : decode cX12_shuffle 27 = .ok (.getfield 361, 3) := by decide +kernel
theorem dX12_shuffle_30 : decode cX12_shuffle 30 = .ok (.iload_n 3, 1) := by decide +kernel
theorem dX12_shuffle_31 : decode cX12_shuffle 31 = .ok (.iconst 0, 1) := by decide +kernel
theorem dX12_shuffle_32 : decode cX12_shuffle 32 = .ok (.iastore, 1) := by decide +kernel
theorem dX12_shuffle_33 : decode cX12_shuffle 33 = .ok (.iinc 3 1, 3) := by decide +kernel
theorem dX12_shuffle_36 : decode cX12_shuffle 36 = .ok (.goto (-19), 3) := by decide +kernel
theorem dX12_shuffle_39 : decode cX12_shuffle 39 = .ok (.iconst 0, 1) := by decide +kernel
theorem dX12_shuffle_40 : decode cX12_shuffle 40 = .ok (.istore_n 3, 1) := by decide +kernel
theorem dX12_shuffle_41 : decode cX12_shuffle 41 = .ok (.iload_n 3, 1) := by decide +kernel
theorem dX12_shuffle_42 : decode cX12_shuffle 42 = .ok (.aload_n 0, 1) := by decide +kernel
theorem dX12_shuffle_43 : decode cX12_shuffle 43 = .ok (.getfield 93, 3) := by decide +kernel
theorem dX12_shuffle_46 : decode cX12_shuffle 46 = .ok (.if_icmp .ge 33, 3) := by decide +kernel
theorem dX12_shuffle_49 : decode cX12_shuffle 49 = .ok (.aload_n 0, 1) := by decide +kernel
theorem dX12_shuffle_50 : decode cX12_shuffle 50 = .ok (.getfield 361, 3) := by decide +kernel
theorem dX12_shuffle_53 : decode cX12_shuffle 53 = .ok (.aload_n 0, 1) := by decide +kernel
theorem dX12_shuffle_54 : decode cX12_shuffle 54 = .ok (.getfield 65, 3) := by decide +kernel
theorem dX12_shuffle_57 : decode cX12_shuffle 57 = .ok (.aload_n 0, 1) := by decide +kernel
theorem dX12_shuffle_58 : decode cX12_shuffle 58 = .ok (.getfield 87, 3) := by decide +kernel
theorem dX12_shuffle_61 : decode cX12_shuffle 61 = .ok (.iload_n 3, 1) := by decide +kernel
theorem dX12_shuffle_62 : decode cX12_shuffle 62 = .ok (.iadd, 1) := by decide +kernel
theorem dX12_shuffle_63 : decode cX12_shuffle 63 = .ok (.sipush 256, 3) := by decide +kernel
theorem dX12_shuffle_66 : decode cX12_shuffle 66 = .ok (.irem, 1) := by decide +kernel
theorem dX12_shuffle_67 : decode cX12_shuffle 67 = .ok (.iaload, 1) := by decide +kernel
theorem dX12_shuffle_68 : decode cX12_shuffle 68 = .ok (.dup2, 1) := by decide +kernel
theorem dX12_shuffle_69 : decode cX12_shuffle 69 = .ok (.iaload, 1) := by decide +kernel
theorem dX12_shuffle_70 : decode cX12_shuffle 70 = .ok (.iconst 1, 1) := by decide +kernel
theorem dX12_shuffle_71 : decode cX12_shuffle 71 = .ok (.iadd, 1) := by decide +kernel
theorem dX12_shuffle_72 : decode cX12_shuffle 72 = .ok (.iastore, 1) := by decide +kernel
theorem dX12_shuffle_73 : decode cX12_shuffle 73 = .ok (.iinc 3 1, 3) := by decide +kernel
theorem dX12_shuffle_76 : decode cX12_shuffle 76 = .ok (.goto (-35), 3) := by decide +kernel
theorem dX12_shuffle_79 : decode cX12_shuffle 79 = .ok (.iconst 0, 1) := by decide +kernel
theorem dX12_shuffle_80 : decode cX12_shuffle 80 = .ok (.istore_n 3, 1) := by decide +kernel
theorem dX12_shuffle_81 : decode cX12_shuffle 81 = .ok (.iconst 0, 1) := by decide +kernel
theorem dX12_shuffle_82 : decode cX12_shuffle 82 = .ok (.istore 4, 2) := by decide +kernel
theorem dX12_shuffle_84 : decode cX12_shuffle 84 = .ok (.iload 4, 2) := by decide +kernel
theorem dX12_shuffle_86 : decode cX12_shuffle 86 = .ok (.aload_n 0, 1) := by decide +kernel
theorem dX12_shuffle_87 : decode cX12_shuffle 87 = .ok (.invokevirtual 164, 3) := by decide +kernel
theorem dX12_shuffle_90 : decode cX12_shuffle 90 = .ok (.if_icmp .ge 55, 3) := by decide +kernel
theorem dX12_shuffle_93 : decode cX12_shuffle 93 = .ok (.aload_n 0, 1) := by decide +kernel
theorem dX12_shuffle_94 : decode cX12_shuffle 94 = .ok (.getfield 361, 3) := by decide +kernel
theorem dX12_shuffle_97 : decode cX12_shuffle 97 = .ok (.iload 4, 2) := by decide +kernel
theorem dX12_shuffle_99 : decode cX12_shuffle 99 = .ok (.iaload, 1) := by decide +kernel
theorem dX12_shuffle_100 : decode cX12_shuffle 100 = .ok (.ifCond .ne 6, 3) := by decide +kernel
theorem dX12_shuffle_103 : decode cX12_shuffle 103 = .ok (.goto 36, 3) := by decide +kernel
theorem dX12_shuffle_106 : decode cX12_shuffle 106 = .ok (.aload_n 0, 1) := by decide +kernel
theorem dX12_shuffle_107 : decode cX12_shuffle 107 = .ok (.getfield 62, 3) := by decide +kernel
theorem dX12_shuffle_110 : decode cX12_shuffle 110 = .ok (.iload 4, 2) := by decide +kernel
theorem dX12_shuffle_112 : decode cX12_shuffle 112 = .ok (.lload_n 1, 1) := by decide +kernel
theorem dX12_shuffle_113 : decode cX12_shuffle 113 = .ok (.iload 4, 2) := by decide +kernel
theorem dX12_shuffle_115 : decode cX12_shuffle 115 = .ok (.bipush 54, 2) := by decide +kernel
theorem dX12_shuffle_117 : decode cX12_shuffle 117 = .ok (.irem, 1) := by decide +kernel
theorem dX12_shuffle_118 : decode cX12_shuffle 118 = .ok (.lushr, 1) := by decide +kernel
theorem dX12_shuffle_119 : decode cX12_shuffle 119 = .ok (.ldc2_w 470, 3) := by decide +kernel
theorem dX12_shuffle_122 : decode cX12_shuffle 122 = .ok (.land, 1) := by decide +kernel
theorem dX12_shuffle_123 : decode cX12_shuffle 123 = .ok (.aload_n 0, 1) := by decide +kernel
theorem dX12_shuffle_124 : decode cX12_shuffle 124 = .ok (.getfield 361, 3) := by decide +kernel
theorem dX12_shuffle_127 : decode cX12_shuffle 127 = .ok (.iload 4, 2) := by decide +kernel
theorem dX12_shuffle_129 : decode cX12_shuffle 129 = .ok (.iaload, 1) := by decide +kernel
theorem dX12_shuffle_130 : decode cX12_shuffle 130 = .ok (.iconst 1, 1) := by decide +kernel
theorem dX12_shuffle_131 : decode cX12_shuffle 131 = .ok (.iadd, 1) := by decide +kernel
theorem dX12_shuffle_132 : decode cX12_shuffle 132 = .ok (.i2l, 1) := by decide +kernel
theorem dX12_shuffle_133 : decode cX12_shuffle 133 = .ok (.lrem, 1) := by decide +kernel
theorem dX12_shuffle_134 : decode cX12_shuffle 134 = .ok (.l2i, 1) := by decide +kernel
theorem dX12_shuffle_135 : decode cX12_shuffle 135 = .ok (.iastore, 1) := by decide +kernel
theorem dX12_shuffle_136 : decode cX12_shuffle 136 = .ok (.iinc 3 1, 3) := by decide +kernel
theorem dX12_shuffle_139 : decode cX12_shuffle 139 = .ok (.iinc 4 1, 3) := by decide +kernel
theorem dX12_shuffle_142 : decode cX12_shuffle 142 = .ok (.goto (-58), 3) := by decide +kernel
theorem dX12_shuffle_145 : decode cX12_shuffle 145 = .ok (.iload_n 3, 1) := by decide +kernel
theorem dX12_shuffle_146 : decode cX12_shuffle 146 = .ok (.ireturn, 1) := by decide +kernel
def J_X12_shuffle_139 (b0 fu : Nat) (rc84 : Nat → Int64 → Int32 → Int32 → tM → Option ((Int32) × tM)) (x0 : Nat) (x1 : Int64) (x3 : Int32) (x4 : Int32) (σ : tM) : Option ((Int32) × tM) := ltb ((x4) + Int32.ofInt 1) (fun y52 => rc84 (x0) (x1) (x3) (y52) (σ))
def L_X12_shuffle_84 (b0 fu : Nat)  : Nat → Nat → Int64 → Int32 → Int32 → tM → Option ((Int32) × tM)
  | 0, _, _, _, _, _ => none
  | n + 1, x0, x1, x3, x4, σ => ltb (L_X12_shuffle_84 b0 fu  n) (fun rc84 => ckO b0 (σ) (x0) 11 (cll (m_X12_blocks b0 fu (x0) (σ)) (fun v17 ρ18 => if (v17) ≤ (x4) then some (x3, ρ18) else ckO b0 (ρ18) (x0) 11 (osm (tA (ρ18) (x0) 54) (fun a23 => ckR b0 (ρ18) (a23) 0 (fun n27 => ckI (x4) (n27) (if (tI (ρ18) (a23) ((x4).toNatClampNeg)) = (0) then J_X12_shuffle_139 b0 fu rc84  (x0) (x1) (x3) (x4) (ρ18) else osm (tA (ρ18) (x0) 17) (fun a30 => osm (tA (ρ18) (x0) 54) (fun a32 => ckR b0 (ρ18) (a32) 0 (fun n36 => ckI (x4) (n36) (ckL (((tI (ρ18) (a32) ((x4).toNatClampNeg)) + (1)).toInt64) (ckR b0 (ρ18) (a30) 0 (fun n40 => ckI (x4) (n40) (ltb (sI (ρ18) (a30) ((x4).toNatClampNeg) ((((((x1).toUInt64 >>> (((x4) - (x4) / (54) * (54)).toInt64.toUInt64 &&& Int64.toUInt64 63)).toInt64) &&& (1023)) - ((((x1).toUInt64 >>> (((x4) - (x4) / (54) * (54)).toInt64.toUInt64 &&& Int64.toUInt64 63)).toInt64) &&& (1023)) / (((tI (ρ18) (a32) ((x4).toNatClampNeg)) + (1)).toInt64) * (((tI (ρ18) (a32) ((x4).toNatClampNeg)) + (1)).toInt64)).toInt32)) (fun ρ42 => ltb ((x3) + Int32.ofInt 1) (fun y51 => J_X12_shuffle_139 b0 fu rc84  (x0) (x1) (y51) (x4) (ρ42)))))))))))))))))
def L_X12_shuffle_41 (b0 fu : Nat)  : Nat → Nat → Int64 → Int32 → tM → Option ((Int32) × tM)
  | 0, _, _, _, _ => none
  | n + 1, x0, x1, x3, σ => ltb (L_X12_shuffle_41 b0 fu  n) (fun rc41 => ckO b0 (σ) (x0) 11 (if (tI (σ) (x0) 16) ≤ (x3) then L_X12_shuffle_84 b0 fu  (fu) (x0) (x1) (0) (0) (σ) else osm (tA (σ) (x0) 54) (fun a55 => osm (tA (σ) (x0) 11) (fun a57 => ckR b0 (σ) (a57) 0 (fun n61 => ckI (((tI (σ) (x0) 15) + (x3)) - ((tI (σ) (x0) 15) + (x3)) / (256) * (256)) (n61) (ckR b0 (σ) (a55) 0 (fun n65 => ckI (tI (σ) (a57) ((((tI (σ) (x0) 15) + (x3)) - ((tI (σ) (x0) 15) + (x3)) / (256) * (256)).toNatClampNeg)) (n65) (ckI (tI (σ) (a57) ((((tI (σ) (x0) 15) + (x3)) - ((tI (σ) (x0) 15) + (x3)) / (256) * (256)).toNatClampNeg)) (n65) (ltb (sI (σ) (a55) ((tI (σ) (a57) ((((tI (σ) (x0) 15) + (x3)) - ((tI (σ) (x0) 15) + (x3)) / (256) * (256)).toNatClampNeg)).toNatClampNeg) ((tI (σ) (a55) ((tI (σ) (a57) ((((tI (σ) (x0) 15) + (x3)) - ((tI (σ) (x0) 15) + (x3)) / (256) * (256)).toNatClampNeg)).toNatClampNeg)) + (1))) (fun ρ68 => ltb ((x3) + Int32.ofInt 1) (fun y75 => rc41 (x0) (x1) (y75) (ρ68))))))))))))
def L_X12_shuffle_17 (b0 fu : Nat)  : Nat → Nat → Int64 → Int32 → tM → Option ((Int32) × tM)
  | 0, _, _, _, _ => none
  | n + 1, x0, x1, x3, σ => ltb (L_X12_shuffle_17 b0 fu  n) (fun rc17 => ckO b0 (σ) (x0) 11 (osm (tA (σ) (x0) 54) (fun a6 => ckR b0 (σ) (a6) 0 (fun n10 => if (nI n10) ≤ (x3) then L_X12_shuffle_41 b0 fu  (fu) (x0) (x1) (0) (σ) else osm (tA (σ) (x0) 54) (fun a77 => ckR b0 (σ) (a77) 0 (fun n81 => ckI (x3) (n81) (ltb ((x3) + Int32.ofInt 1) (fun y83 => rc17 (x0) (x1) (y83) (sI (σ) (a77) ((x3).toNatClampNeg) (0))))))))))
def m_X12_shuffle (b0 fu : Nat) (a0 : Nat) (p0 : Int64) (σ : tM) : Option ((Int32) × tM) := grw σ (ckO b0 (σ) (a0) 11 (if (tI (sI (σ) (a0) 0 (0)) (a0) 18) = (0) then L_X12_shuffle_17 b0 fu  (fu) (a0) (p0) (0) (sI (σ) (a0) 0 (0)) else some ((-9), sI (σ) (a0) 0 (0))))
set_option maxRecDepth 100000 in
set_option maxHeartbeats 1000000 in
theorem j_X12_shuffle_139 {p : Program} {l : Launch} {e : Env} {s : State} {m : MethodId} {args : Array Value} {below : List Frame} {meth : Method} {c : Code} {D : va_G} {aC : Nat → ClassId} {b0 fu : Nat} {σ0 τ : tM} {v : Int32} {rc84 : Nat → Int64 → Int32 → Int32 → tM → Option ((Int32) × tM)} (C : tCx p l s m args meth c yX12_shuffle.cls cX12_shuffle 5 (some .int) D aC b0 σ0) (htab : ∀ x ∈ c.exceptionTable.toList, False) (hin : meth.name = yX12_shuffle.name) (hrc84 : ∀ (x0 : Nat) (x1 : Int64) (x3 : Int32) (x4 : Int32) (ρ : tM), rc84 x0 x1 x3 x4 ρ = some (v, τ) → tX p l e s m args below meth c 5 1 20 D aC b0 σ0 (.inl (some (.int v))) τ 84 [(0, .ref (x0)), (1, .long (x1)), (3, .int (x3)), (4, .int (x4))] [] ρ) {x0 : Nat} {x1 : Int64} {x3 : Int32} {x4 : Int32} {σ : tM} (hm : J_X12_shuffle_139 b0 fu rc84 x0 x1 x3 x4 σ = some (v, τ)) : tX p l e s m args below meth c 5 1 20 D aC b0 σ0 (.inl (some (.int v))) τ 139 [(0, .ref (x0)), (1, .long (x1)), (3, .int (x3)), (4, .int (x4))] [] σ := by
  unfold J_X12_shuffle_139 at hm
  obtain ⟨y52, hy52⟩ : ∃ z : Int32, z = (x4) + Int32.ofInt 1 := ⟨_, rfl⟩
  replace hm := ltb_e hm hy52
  refine zx_iinc C [(4, .int (y52)), (0, .ref (x0)), (1, .long (x1)), (3, .int (x3))] dX12_shuffle_139 3 rfl hy52.symm (by decide) rfl ?_
  refine zx_goto C 84 dX12_shuffle_142 (by decide) ?_
  exact zx_lv [1, 2, 3, 0] [(0, .ref (x0)), (1, .long (x1)), (3, .int (x3)), (4, .int (y52))] rfl (hrc84 _ _ _ _ _ hm)
set_option maxRecDepth 100000 in
set_option maxHeartbeats 1000000 in
theorem l_X12_shuffle_84 {p : Program} {l : Launch} {e : Env} {s : State} {m : MethodId} {args : Array Value} {below : List Frame} {meth : Method} {c : Code} {D : va_G} {aC : Nat → ClassId} {b0 fu : Nat} {σ0 τ : tM} {v : Int32}  (C : tCx p l s m args meth c yX12_shuffle.cls cX12_shuffle 5 (some .int) D aC b0 σ0) (htab : ∀ x ∈ c.exceptionTable.toList, False) (hin : meth.name = yX12_shuffle.name)  : ∀ (n : Nat) (x0 : Nat) (x1 : Int64) (x3 : Int32) (x4 : Int32) (σ : tM), L_X12_shuffle_84 b0 fu  n x0 x1 x3 x4 σ = some (v, τ) → tX p l e s m args below meth c 5 1 20 D aC b0 σ0 (.inl (some (.int v))) τ 84 [(0, .ref (x0)), (1, .long (x1)), (3, .int (x3)), (4, .int (x4))] [] σ := by
  intro n
  induction n with
  | zero => intro x0 x1 x3 x4 σ hm; unfold L_X12_shuffle_84 at hm; cases hm
  | succ n ih =>
    intro x0 x1 x3 x4 σ hm
    unfold L_X12_shuffle_84 at hm
    obtain ⟨rc84, hrc⟩ : ∃ z, z = L_X12_shuffle_84 b0 fu  n := ⟨_, rfl⟩
    replace hm := ltb_e hm hrc
    rw [← hrc] at ih
    have hrc84 := ih
    clear ih hrc
    refine zx_iload C dX12_shuffle_84 3 rfl ?_
    refine zx_aload_n C dX12_shuffle_86 0 rfl ?_
    obtain ⟨k15, i16, hm⟩ := ckO_e hm
    obtain ⟨v17, ρ18, h19, hm⟩ := cll_e hm
    refine zx_callV (σ := σ) C [] tC_11 k15 i16 Y_X12_blocks W_6_216 W_6_218 Wp_55 (c_X12_blocks h19) (by decide) (by decide) rfl (Nat.le_of_ble_eq_true rfl) dX12_shuffle_87 rfl ?_
    refine zx_icmp_ge C 145 dX12_shuffle_90 (by decide) (fun c20 => ?_) (fun c20 => ?_)
    · replace hm := ip_e hm c20
      refine zx_iload_n C dX12_shuffle_145 2 rfl ?_
      obtain ⟨rfl, rfl⟩ := ret_e hm
      exact zx_iret C rfl rfl rfl dX12_shuffle_146
    · replace hm := in_e hm c20
      refine zx_aload_n C dX12_shuffle_93 0 rfl ?_
      obtain ⟨k21, i22, hm⟩ := ckO_e hm
      obtain ⟨a23, h24, hm⟩ := osm_e hm
      refine zx_get (j := 54) C tC_11 k21 i22 ⟨by decide, Or.inl W_7_33⟩ dX12_shuffle_94 (.ref a23) (rf_s h24) ?_
      refine zx_iload C dX12_shuffle_97 3 rfl ?_
      obtain ⟨n27, k25, i26, hm⟩ := ckR_e hm
      obtain ⟨h28, hm⟩ := ckI_e hm
      refine zx_iald C k25 i26 h28 dX12_shuffle_99 ?_
      refine zx_if_ne C 106 dX12_shuffle_100 (by decide) (fun c29 => ?_) (fun c29 => ?_)
      · replace hm := in_e hm c29
        refine zx_aload_n C dX12_shuffle_106 0 rfl ?_
        obtain ⟨a30, h31, hm⟩ := osm_e hm
        refine zx_get (j := 17) C tC_11 k21 i22 ⟨by decide, Or.inl W_6_236⟩ dX12_shuffle_107 (.ref a30) (rf_s h31) ?_
        refine zx_iload C dX12_shuffle_110 3 rfl ?_
        refine zx_lload_n C dX12_shuffle_112 1 rfl ?_
        refine zx_iload C dX12_shuffle_113 3 rfl ?_
        refine zx_bipush (v := 54) C dX12_shuffle_115 (by decide) ?_
        refine zx_irem C dX12_shuffle_117 (by decide) ?_
        refine zx_lushr C dX12_shuffle_118 ?_
        refine zx_ldc2 (v := 1023) C W_9_89 dX12_shuffle_119 ?_
        refine zx_land C dX12_shuffle_122 ?_
        refine zx_aload_n C dX12_shuffle_123 0 rfl ?_
        obtain ⟨a32, h33, hm⟩ := osm_e hm
        refine zx_get (j := 54) C tC_11 k21 i22 ⟨by decide, Or.inl W_7_33⟩ dX12_shuffle_124 (.ref a32) (rf_s h33) ?_
        refine zx_iload C dX12_shuffle_127 3 rfl ?_
        obtain ⟨n36, k34, i35, hm⟩ := ckR_e hm
        obtain ⟨h37, hm⟩ := ckI_e hm
        refine zx_iald C k34 i35 h37 dX12_shuffle_129 ?_
        refine zx_iconst (v := 1) C dX12_shuffle_130 (by decide) ?_
        refine zx_iadd C dX12_shuffle_131 ?_
        refine zx_i2l C dX12_shuffle_132 ?_
        obtain ⟨h53, hm⟩ := ckL_e hm
        refine zx_lrem C dX12_shuffle_133 h53 ?_
        refine zx_l2i C dX12_shuffle_134 ?_
        obtain ⟨n40, k38, i39, hm⟩ := ckR_e hm
        obtain ⟨h41, hm⟩ := ckI_e hm
        refine zx_iast C k38 i39 h41 dX12_shuffle_135 ?_
        refine zx_mem (fun ρ42 hρ42 => ?_)
        replace hm := ltb_e hm hρ42
        have k43 : tk ρ42 (x0) = .inl 11 := by rw [hρ42]; exact k21
        have i44 : tIn b0 ρ42 (x0) := by rw [hρ42]; exact i22
        have k45 : tk ρ42 (a23) = .inr (0, n27) := by rw [hρ42]; exact k25
        have i46 : tIn b0 ρ42 (a23) := by rw [hρ42]; exact i26
        have k47 : tk ρ42 (a32) = .inr (0, n36) := by rw [hρ42]; exact k34
        have i48 : tIn b0 ρ42 (a32) := by rw [hρ42]; exact i35
        have k49 : tk ρ42 (a30) = .inr (0, n40) := by rw [hρ42]; exact k38
        have i50 : tIn b0 ρ42 (a30) := by rw [hρ42]; exact i39
        obtain ⟨y51, hy51⟩ : ∃ z : Int32, z = (x3) + Int32.ofInt 1 := ⟨_, rfl⟩
        replace hm := ltb_e hm hy51
        refine zx_iinc C [(3, .int (y51)), (0, .ref (x0)), (1, .long (x1)), (4, .int (x4))] dX12_shuffle_136 2 rfl hy51.symm (by decide) rfl ?_
        exact zx_lv [1, 2, 0, 3] [(0, .ref (x0)), (1, .long (x1)), (3, .int (y51)), (4, .int (x4))] rfl (j_X12_shuffle_139 C htab hin hrc84   hm)
      · replace hm := ip_e hm c29
        refine zx_goto C 139 dX12_shuffle_103 (by decide) ?_
        exact zx_lv [0, 1, 2, 3] [(0, .ref (x0)), (1, .long (x1)), (3, .int (x3)), (4, .int (x4))] rfl (j_X12_shuffle_139 C htab hin hrc84   hm)
set_option maxRecDepth 100000 in
set_option maxHeartbeats 1000000 in
theorem l_X12_shuffle_41 {p : Program} {l : Launch} {e : Env} {s : State} {m : MethodId} {args : Array Value} {below : List Frame} {meth : Method} {c : Code} {D : va_G} {aC : Nat → ClassId} {b0 fu : Nat} {σ0 τ : tM} {v : Int32}  (C : tCx p l s m args meth c yX12_shuffle.cls cX12_shuffle 5 (some .int) D aC b0 σ0) (htab : ∀ x ∈ c.exceptionTable.toList, False) (hin : meth.name = yX12_shuffle.name)  : ∀ (n : Nat) (x0 : Nat) (x1 : Int64) (x3 : Int32) (σ : tM), L_X12_shuffle_41 b0 fu  n x0 x1 x3 σ = some (v, τ) → tX p l e s m args below meth c 5 1 20 D aC b0 σ0 (.inl (some (.int v))) τ 41 [(0, .ref (x0)), (1, .long (x1)), (3, .int (x3))] [] σ := by
  intro n
  induction n with
  | zero => intro x0 x1 x3 σ hm; unfold L_X12_shuffle_41 at hm; cases hm
  | succ n ih =>
    intro x0 x1 x3 σ hm
    unfold L_X12_shuffle_41 at hm
    obtain ⟨rc41, hrc⟩ : ∃ z, z = L_X12_shuffle_41 b0 fu  n := ⟨_, rfl⟩
    replace hm := ltb_e hm hrc
    rw [← hrc] at ih
    have hrc41 := ih
    clear ih hrc
    refine zx_iload_n C dX12_shuffle_41 2 rfl ?_
    refine zx_aload_n C dX12_shuffle_42 0 rfl ?_
    obtain ⟨k12, i13, hm⟩ := ckO_e hm
    refine zx_get (j := 16) C tC_11 k12 i13 ⟨by decide, Or.inl W_6_235⟩ dX12_shuffle_43 (.int (tI (σ) (x0) 16)) rfl ?_
    refine zx_icmp_ge C 79 dX12_shuffle_46 (by decide) (fun c14 => ?_) (fun c14 => ?_)
    · replace hm := ip_e hm c14
      refine zx_iconst (v := 0) C dX12_shuffle_79 (by decide) ?_
      refine zx_istore_n C [(3, .int (0)), (0, .ref (x0)), (1, .long (x1))] dX12_shuffle_80 rfl (by decide) rfl ?_
      refine zx_iconst (v := 0) C dX12_shuffle_81 (by decide) ?_
      refine zx_istore C [(4, .int (0)), (3, .int (0)), (0, .ref (x0)), (1, .long (x1))] dX12_shuffle_82 (by decide) rfl ?_
      exact zx_lv [2, 3, 1, 0] [(0, .ref (x0)), (1, .long (x1)), (3, .int (0)), (4, .int (0))] rfl (l_X12_shuffle_84 C htab hin  _ _ _ _ _ _ hm)
    · replace hm := in_e hm c14
      refine zx_aload_n C dX12_shuffle_49 0 rfl ?_
      obtain ⟨a55, h56, hm⟩ := osm_e hm
      refine zx_get (j := 54) C tC_11 k12 i13 ⟨by decide, Or.inl W_7_33⟩ dX12_shuffle_50 (.ref a55) (rf_s h56) ?_
      refine zx_aload_n C dX12_shuffle_53 0 rfl ?_
      obtain ⟨a57, h58, hm⟩ := osm_e hm
      refine zx_get (j := 11) C tC_11 k12 i13 ⟨by decide, Or.inl W_6_230⟩ dX12_shuffle_54 (.ref a57) (rf_s h58) ?_
      refine zx_aload_n C dX12_shuffle_57 0 rfl ?_
      refine zx_get (j := 15) C tC_11 k12 i13 ⟨by decide, Or.inl W_6_234⟩ dX12_shuffle_58 (.int (tI (σ) (x0) 15)) rfl ?_
      refine zx_iload_n C dX12_shuffle_61 2 rfl ?_
      refine zx_iadd C dX12_shuffle_62 ?_
      refine zx_sipush (v := 256) C dX12_shuffle_63 (by decide) ?_
      refine zx_irem C dX12_shuffle_66 (by decide) ?_
      obtain ⟨n61, k59, i60, hm⟩ := ckR_e hm
      obtain ⟨h62, hm⟩ := ckI_e hm
      refine zx_iald C k59 i60 h62 dX12_shuffle_67 ?_
      refine zx_dup2_11 C dX12_shuffle_68 rfl rfl ?_
      obtain ⟨n65, k63, i64, hm⟩ := ckR_e hm
      obtain ⟨h66, hm⟩ := ckI_e hm
      refine zx_iald C k63 i64 h66 dX12_shuffle_69 ?_
      refine zx_iconst (v := 1) C dX12_shuffle_70 (by decide) ?_
      refine zx_iadd C dX12_shuffle_71 ?_
      obtain ⟨h67, hm⟩ := ckI_e hm
      refine zx_iast C k63 i64 h67 dX12_shuffle_72 ?_
      refine zx_mem (fun ρ68 hρ68 => ?_)
      replace hm := ltb_e hm hρ68
      have k69 : tk ρ68 (x0) = .inl 11 := by rw [hρ68]; exact k12
      have i70 : tIn b0 ρ68 (x0) := by rw [hρ68]; exact i13
      have k71 : tk ρ68 (a57) = .inr (0, n61) := by rw [hρ68]; exact k59
      have i72 : tIn b0 ρ68 (a57) := by rw [hρ68]; exact i60
      have k73 : tk ρ68 (a55) = .inr (0, n65) := by rw [hρ68]; exact k63
      have i74 : tIn b0 ρ68 (a55) := by rw [hρ68]; exact i64
      obtain ⟨y75, hy75⟩ : ∃ z : Int32, z = (x3) + Int32.ofInt 1 := ⟨_, rfl⟩
      replace hm := ltb_e hm hy75
      refine zx_iinc C [(3, .int (y75)), (0, .ref (x0)), (1, .long (x1))] dX12_shuffle_73 2 rfl hy75.symm (by decide) rfl ?_
      refine zx_goto C 41 dX12_shuffle_76 (by decide) ?_
      exact zx_lv [1, 2, 0] [(0, .ref (x0)), (1, .long (x1)), (3, .int (y75))] rfl (hrc41 _ _ _ _ hm)
set_option maxRecDepth 100000 in
set_option maxHeartbeats 1000000 in
theorem l_X12_shuffle_17 {p : Program} {l : Launch} {e : Env} {s : State} {m : MethodId} {args : Array Value} {below : List Frame} {meth : Method} {c : Code} {D : va_G} {aC : Nat → ClassId} {b0 fu : Nat} {σ0 τ : tM} {v : Int32}  (C : tCx p l s m args meth c yX12_shuffle.cls cX12_shuffle 5 (some .int) D aC b0 σ0) (htab : ∀ x ∈ c.exceptionTable.toList, False) (hin : meth.name = yX12_shuffle.name)  : ∀ (n : Nat) (x0 : Nat) (x1 : Int64) (x3 : Int32) (σ : tM), L_X12_shuffle_17 b0 fu  n x0 x1 x3 σ = some (v, τ) → tX p l e s m args below meth c 5 1 20 D aC b0 σ0 (.inl (some (.int v))) τ 17 [(0, .ref (x0)), (1, .long (x1)), (3, .int (x3))] [] σ := by
  intro n
  induction n with
  | zero => intro x0 x1 x3 σ hm; unfold L_X12_shuffle_17 at hm; cases hm
  | succ n ih =>
    intro x0 x1 x3 σ hm
    unfold L_X12_shuffle_17 at hm
    obtain ⟨rc17, hrc⟩ : ∃ z, z = L_X12_shuffle_17 b0 fu  n := ⟨_, rfl⟩
    replace hm := ltb_e hm hrc
    rw [← hrc] at ih
    have hrc17 := ih
    clear ih hrc
    refine zx_iload_n C dX12_shuffle_17 2 rfl ?_
    refine zx_aload_n C dX12_shuffle_18 0 rfl ?_
    obtain ⟨k4, i5, hm⟩ := ckO_e hm
    obtain ⟨a6, h7, hm⟩ := osm_e hm
    refine zx_get (j := 54) C tC_11 k4 i5 ⟨by decide, Or.inl W_7_33⟩ dX12_shuffle_19 (.ref a6) (rf_s h7) ?_
    obtain ⟨n10, k8, i9, hm⟩ := ckR_e hm
    refine zx_alen C k8 (by decide) i9 dX12_shuffle_22 ?_
    refine zx_icmp_ge C 39 dX12_shuffle_23 (by decide) (fun c11 => ?_) (fun c11 => ?_)
    · replace hm := ip_e hm c11
      refine zx_iconst (v := 0) C dX12_shuffle_39 (by decide) ?_
      refine zx_istore_n C [(3, .int (0)), (0, .ref (x0)), (1, .long (x1))] dX12_shuffle_40 rfl (by decide) rfl ?_
      exact zx_lv [1, 2, 0] [(0, .ref (x0)), (1, .long (x1)), (3, .int (0))] rfl (l_X12_shuffle_41 C htab hin  _ _ _ _ _ hm)
    · replace hm := in_e hm c11
      refine zx_aload_n C dX12_shuffle_26 0 rfl ?_
      obtain ⟨a77, h78, hm⟩ := osm_e hm
      refine zx_get (j := 54) C tC_11 k4 i5 ⟨by decide, Or.inl W_7_33⟩ dX12_shuffle_27 (.ref a77) (rf_s h78) ?_
      refine zx_iload_n C dX12_shuffle_30 2 rfl ?_
      refine zx_iconst (v := 0) C dX12_shuffle_31 (by decide) ?_
      obtain ⟨n81, k79, i80, hm⟩ := ckR_e hm
      obtain ⟨h82, hm⟩ := ckI_e hm
      refine zx_iast C k79 i80 h82 dX12_shuffle_32 ?_
      obtain ⟨y83, hy83⟩ : ∃ z : Int32, z = (x3) + Int32.ofInt 1 := ⟨_, rfl⟩
      replace hm := ltb_e hm hy83
      refine zx_iinc C [(3, .int (y83)), (0, .ref (x0)), (1, .long (x1))] dX12_shuffle_33 2 rfl hy83.symm (by decide) rfl ?_
      refine zx_goto C 17 dX12_shuffle_36 (by decide) ?_
      exact zx_lv [1, 2, 0] [(0, .ref (x0)), (1, .long (x1)), (3, .int (y83))] rfl (hrc17 _ _ _ _ hm)
set_option maxRecDepth 100000 in
set_option maxHeartbeats 1000000 in
theorem c_X12_shuffle {l : Launch} {D : va_G} {aC : Nat → ClassId} {b0 fu : Nat} {a0 : Nat} {p0 : Int64} {σ τ : tM} {v : Int32} (hm : m_X12_shuffle b0 fu a0 p0 σ = some (v, τ)) : tMt l D aC b0 yX12_shuffle (Cond.code yX12_shuffle cX12_shuffle 5 (some .int)) 1 20 [.ref (a0), .long (p0)] σ (.inl (some (.int v))) τ := by
  unfold m_X12_shuffle at hm
  obtain ⟨hg, hm⟩ := grw_e hm
  refine tMt_of (n := 0) rfl (Nat.le_of_ble_eq_true rfl) hg ?_
  intro p e s m below meth c C htab hin
  refine zx_lv [0, 1] [(0, .ref (a0)), (1, .long (p0))] rfl ?_
  refine zx_aload_n C dX12_shuffle_0 0 rfl ?_
  refine zx_iconst (v := 0) C dX12_shuffle_1 (by decide) ?_
  obtain ⟨k1, i2, hm⟩ := ckO_e hm
  refine zx_put (j := 0) (ρ := sI (σ) (a0) 0 (0)) C tC_11 k1 i2 ⟨by decide, Or.inl W_6_220⟩ rfl rfl rfl (sI_ok (fun _ => rfl)) dX12_shuffle_2 ?_
  refine zx_aload_n C dX12_shuffle_5 0 rfl ?_
  refine zx_get (j := 18) C tC_11 k1 i2 ⟨by decide, Or.inl W_6_237⟩ dX12_shuffle_6 (.int (tI (sI (σ) (a0) 0 (0)) (a0) 18)) rfl ?_
  refine zx_if_eq C 15 dX12_shuffle_9 (by decide) (fun c3 => ?_) (fun c3 => ?_)
  · replace hm := ip_e hm c3
    refine zx_iconst (v := 0) C dX12_shuffle_15 (by decide) ?_
    refine zx_istore_n C [(3, .int (0)), (0, .ref (a0)), (1, .long (p0))] dX12_shuffle_16 rfl (by decide) rfl ?_
    exact zx_lv [1, 2, 0] [(0, .ref (a0)), (1, .long (p0)), (3, .int (0))] rfl (l_X12_shuffle_17 C htab hin  _ _ _ _ _ hm)
  · replace hm := in_e hm c3
    refine zx_bipush (v := (-9)) C dX12_shuffle_12 (by decide) ?_
    obtain ⟨rfl, rfl⟩ := ret_e hm
    exact zx_iret C rfl rfl rfl dX12_shuffle_14
abbrev cX12_dirtyBlocks : ByteArray := prog_13_method_113_code
def yX12_dirtyBlocks : MethodName := ⟨"SyncTreeModel", "dirtyBlocks", "()I"⟩
theorem Y_X12_dirtyBlocks : tY yX12_dirtyBlocks cX12_dirtyBlocks 3 (some .int) 0 := ⟨W_9_125, W_1_14, ⟨by decide +kernel, by decide +kernel⟩, by decide +kernel⟩
theorem dX12_dirtyBlocks_0 : decode cX12_dirtyBlocks 0 = .ok (.iconst 0, 1) := by decide +kernel
theorem dX12_dirtyBlocks_1 : decode cX12_dirtyBlocks 1 = .ok (.istore_n 1, 1) := by decide +kernel
theorem dX12_dirtyBlocks_2 : decode cX12_dirtyBlocks 2 = .ok (.iconst 0, 1) := by decide +kernel
theorem dX12_dirtyBlocks_3 : decode cX12_dirtyBlocks 3 = .ok (.istore_n 2, 1) := by decide +kernel
theorem dX12_dirtyBlocks_4 : decode cX12_dirtyBlocks 4 = .ok (.iload_n 2, 1) := by decide +kernel
theorem dX12_dirtyBlocks_5 : decode cX12_dirtyBlocks 5 = .ok (.aload_n 0, 1) := by decide +kernel
theorem dX12_dirtyBlocks_6 : decode cX12_dirtyBlocks 6 = .ok (.getfield 41, 3) := by decide +kernel
theorem dX12_dirtyBlocks_9 : decode cX12_dirtyBlocks 9 = .ok (.if_icmp .ge 26, 3) := by decide +kernel
theorem dX12_dirtyBlocks_12 : decode cX12_dirtyBlocks 12 = .ok (.iload_n 1, 1) := by decide +kernel
theorem dX12_dirtyBlocks_13 : decode cX12_dirtyBlocks 13 = .ok (.aload_n 0, 1) := by decide +kernel
theorem dX12_dirtyBlocks_14 : decode cX12_dirtyBlocks 14 = .ok (.getfield 244, 3) := by decide +kernel
theorem dX12_dirtyBlocks_17 : decode cX12_dirtyBlocks 17 = .ok (.iload_n 2, 1) := by decide +kernel
theorem dX12_dirtyBlocks_18 : decode cX12_dirtyBlocks 18 = .ok (.baload, 1) := by decide +kernel
theorem dX12_dirtyBlocks_19 : decode cX12_dirtyBlocks 19 = .ok (.ifCond .eq 7, 3) := by decide +kernel
theorem dX12_dirtyBlocks_22 : decode cX12_dirtyBlocks 22 = .ok (.iconst 1, 1) := by decide +kernel
theorem dX12_dirtyBlocks_23 : decode cX12_dirtyBlocks 23 = .ok (.goto 4, 3) := by decide +kernel
theorem dX12_dirtyBlocks_26 : decode cX12_dirtyBlocks 26 = .ok (.iconst 0, 1) := by decide +kernel
theorem dX12_dirtyBlocks_27 : decode cX12_dirtyBlocks 27 = .ok (.iadd, 1) := by decide +kernel
theorem dX12_dirtyBlocks_28 : decode cX12_dirtyBlocks 28 = .ok (.istore_n 1, 1) := by decide +kernel
theorem dX12_dirtyBlocks_29 : decode cX12_dirtyBlocks 29 = .ok (.iinc 2 1, 3) := by decide +kernel
theorem dX12_dirtyBlocks_32 : decode cX12_dirtyBlocks 32 = .ok (.goto (-28), 3) := by decide +kernel
theorem dX12_dirtyBlocks_35 : decode cX12_dirtyBlocks 35 = .ok (.iload_n 1, 1) := by decide +kernel
theorem dX12_dirtyBlocks_36 : decode cX12_dirtyBlocks 36 = .ok (.ireturn, 1) := by decide +kernel
def J_X12_dirtyBlocks_27 (b0 fu : Nat) (rc4 : Nat → Int32 → Int32 → tM → Option ((Int32) × tM)) (x0 : Nat) (x2 : Int32) (s0 : Int32) (s1 : Int32) (σ : tM) : Option ((Int32) × tM) := ltb (((s0) + (s1) : Int32)) (fun y11 => ltb ((x2) + Int32.ofInt 1) (fun y12 => rc4 (x0) (y11) (y12) (σ)))
def L_X12_dirtyBlocks_4 (b0 fu : Nat)  : Nat → Nat → Int32 → Int32 → tM → Option ((Int32) × tM)
  | 0, _, _, _, _ => none
  | n + 1, x0, x1, x2, σ => ltb (L_X12_dirtyBlocks_4 b0 fu  n) (fun rc4 => ckO b0 (σ) (x0) 11 (if (tI (σ) (x0) 7) ≤ (x2) then some (x1, σ) else osm (tA (σ) (x0) 23) (fun a4 => ckR b0 (σ) (a4) 2 (fun n8 => ckI (x2) (n8) (if (tI (σ) (a4) ((x2).toNatClampNeg)) = (0) then J_X12_dirtyBlocks_27 b0 fu rc4  (x0) (x2) (x1) (0) (σ) else J_X12_dirtyBlocks_27 b0 fu rc4  (x0) (x2) (x1) (1) (σ))))))
def m_X12_dirtyBlocks (b0 fu : Nat) (a0 : Nat) (σ : tM) : Option ((Int32) × tM) := grw σ (L_X12_dirtyBlocks_4 b0 fu  (fu) (a0) (0) (0) (σ))
set_option maxRecDepth 100000 in
set_option maxHeartbeats 1000000 in
theorem j_X12_dirtyBlocks_27 {p : Program} {l : Launch} {e : Env} {s : State} {m : MethodId} {args : Array Value} {below : List Frame} {meth : Method} {c : Code} {D : va_G} {aC : Nat → ClassId} {b0 fu : Nat} {σ0 τ : tM} {v : Int32} {rc4 : Nat → Int32 → Int32 → tM → Option ((Int32) × tM)} (C : tCx p l s m args meth c yX12_dirtyBlocks.cls cX12_dirtyBlocks 3 (some .int) D aC b0 σ0) (htab : ∀ x ∈ c.exceptionTable.toList, False) (hin : meth.name = yX12_dirtyBlocks.name) (hrc4 : ∀ (x0 : Nat) (x1 : Int32) (x2 : Int32) (ρ : tM), rc4 x0 x1 x2 ρ = some (v, τ) → tX p l e s m args below meth c 3 0 0 D aC b0 σ0 (.inl (some (.int v))) τ 4 [(0, .ref (x0)), (1, .int (x1)), (2, .int (x2))] [] ρ) {x0 : Nat} {x2 : Int32} {s0 : Int32} {s1 : Int32} {σ : tM} (hm : J_X12_dirtyBlocks_27 b0 fu rc4 x0 x2 s0 s1 σ = some (v, τ)) : tX p l e s m args below meth c 3 0 0 D aC b0 σ0 (.inl (some (.int v))) τ 27 [(0, .ref (x0)), (2, .int (x2))] [.int (s1), .int (s0)] σ := by
  unfold J_X12_dirtyBlocks_27 at hm
  refine zx_iadd C dX12_dirtyBlocks_27 ?_
  refine zx_topi (fun y11 hy11 => ?_)
  replace hm := ltb_e hm hy11
  refine zx_istore_n C [(1, .int (y11)), (0, .ref (x0)), (2, .int (x2))] dX12_dirtyBlocks_28 rfl (by decide) rfl ?_
  obtain ⟨y12, hy12⟩ : ∃ z : Int32, z = (x2) + Int32.ofInt 1 := ⟨_, rfl⟩
  replace hm := ltb_e hm hy12
  refine zx_iinc C [(2, .int (y12)), (1, .int (y11)), (0, .ref (x0))] dX12_dirtyBlocks_29 2 rfl hy12.symm (by decide) rfl ?_
  refine zx_goto C 4 dX12_dirtyBlocks_32 (by decide) ?_
  exact zx_lv [2, 1, 0] [(0, .ref (x0)), (1, .int (y11)), (2, .int (y12))] rfl (hrc4 _ _ _ _ hm)
set_option maxRecDepth 100000 in
set_option maxHeartbeats 1000000 in
theorem l_X12_dirtyBlocks_4 {p : Program} {l : Launch} {e : Env} {s : State} {m : MethodId} {args : Array Value} {below : List Frame} {meth : Method} {c : Code} {D : va_G} {aC : Nat → ClassId} {b0 fu : Nat} {σ0 τ : tM} {v : Int32}  (C : tCx p l s m args meth c yX12_dirtyBlocks.cls cX12_dirtyBlocks 3 (some .int) D aC b0 σ0) (htab : ∀ x ∈ c.exceptionTable.toList, False) (hin : meth.name = yX12_dirtyBlocks.name)  : ∀ (n : Nat) (x0 : Nat) (x1 : Int32) (x2 : Int32) (σ : tM), L_X12_dirtyBlocks_4 b0 fu  n x0 x1 x2 σ = some (v, τ) → tX p l e s m args below meth c 3 0 0 D aC b0 σ0 (.inl (some (.int v))) τ 4 [(0, .ref (x0)), (1, .int (x1)), (2, .int (x2))] [] σ := by
  intro n
  induction n with
  | zero => intro x0 x1 x2 σ hm; unfold L_X12_dirtyBlocks_4 at hm; cases hm
  | succ n ih =>
    intro x0 x1 x2 σ hm
    unfold L_X12_dirtyBlocks_4 at hm
    obtain ⟨rc4, hrc⟩ : ∃ z, z = L_X12_dirtyBlocks_4 b0 fu  n := ⟨_, rfl⟩
    replace hm := ltb_e hm hrc
    rw [← hrc] at ih
    have hrc4 := ih
    clear ih hrc
    refine zx_iload_n C dX12_dirtyBlocks_4 2 rfl ?_
    refine zx_aload_n C dX12_dirtyBlocks_5 0 rfl ?_
    obtain ⟨k1, i2, hm⟩ := ckO_e hm
    refine zx_get (j := 7) C tC_11 k1 i2 ⟨by decide, Or.inl W_6_226⟩ dX12_dirtyBlocks_6 (.int (tI (σ) (x0) 7)) rfl ?_
    refine zx_icmp_ge C 35 dX12_dirtyBlocks_9 (by decide) (fun c3 => ?_) (fun c3 => ?_)
    · replace hm := ip_e hm c3
      refine zx_iload_n C dX12_dirtyBlocks_35 1 rfl ?_
      obtain ⟨rfl, rfl⟩ := ret_e hm
      exact zx_iret C rfl rfl rfl dX12_dirtyBlocks_36
    · replace hm := in_e hm c3
      refine zx_iload_n C dX12_dirtyBlocks_12 1 rfl ?_
      refine zx_aload_n C dX12_dirtyBlocks_13 0 rfl ?_
      obtain ⟨a4, h5, hm⟩ := osm_e hm
      refine zx_get (j := 23) C tC_11 k1 i2 ⟨by decide, Or.inl W_7_2⟩ dX12_dirtyBlocks_14 (.ref a4) (rf_s h5) ?_
      refine zx_iload_n C dX12_dirtyBlocks_17 2 rfl ?_
      obtain ⟨n8, k6, i7, hm⟩ := ckR_e hm
      obtain ⟨h9, hm⟩ := ckI_e hm
      refine zx_zald C k6 i7 h9 dX12_dirtyBlocks_18 ?_
      refine zx_if_eq C 26 dX12_dirtyBlocks_19 (by decide) (fun c10 => ?_) (fun c10 => ?_)
      · replace hm := ip_e hm c10
        refine zx_iconst (v := 0) C dX12_dirtyBlocks_26 (by decide) ?_
        exact zx_lv [0, 2] [(0, .ref (x0)), (2, .int (x2))] rfl (j_X12_dirtyBlocks_27 C htab hin hrc4   hm)
      · replace hm := in_e hm c10
        refine zx_iconst (v := 1) C dX12_dirtyBlocks_22 (by decide) ?_
        refine zx_goto C 27 dX12_dirtyBlocks_23 (by decide) ?_
        exact zx_lv [0, 2] [(0, .ref (x0)), (2, .int (x2))] rfl (j_X12_dirtyBlocks_27 C htab hin hrc4   hm)
set_option maxRecDepth 100000 in
set_option maxHeartbeats 1000000 in
theorem c_X12_dirtyBlocks {l : Launch} {D : va_G} {aC : Nat → ClassId} {b0 fu : Nat} {a0 : Nat} {σ τ : tM} {v : Int32} (hm : m_X12_dirtyBlocks b0 fu a0 σ = some (v, τ)) : tMt l D aC b0 yX12_dirtyBlocks (Cond.code yX12_dirtyBlocks cX12_dirtyBlocks 3 (some .int)) 0 0 [.ref (a0)] σ (.inl (some (.int v))) τ := by
  unfold m_X12_dirtyBlocks at hm
  obtain ⟨hg, hm⟩ := grw_e hm
  refine tMt_of (n := 0) rfl (Nat.le_of_ble_eq_true rfl) hg ?_
  intro p e s m below meth c C htab hin
  refine zx_lv [0] [(0, .ref (a0))] rfl ?_
  refine zx_iconst (v := 0) C dX12_dirtyBlocks_0 (by decide) ?_
  refine zx_istore_n C [(1, .int (0)), (0, .ref (a0))] dX12_dirtyBlocks_1 rfl (by decide) rfl ?_
  refine zx_iconst (v := 0) C dX12_dirtyBlocks_2 (by decide) ?_
  refine zx_istore_n C [(2, .int (0)), (1, .int (0)), (0, .ref (a0))] dX12_dirtyBlocks_3 rfl (by decide) rfl ?_
  exact zx_lv [2, 1, 0] [(0, .ref (a0)), (1, .int (0)), (2, .int (0))] rfl (l_X12_dirtyBlocks_4 C htab hin  _ _ _ _ _ hm)
abbrev cX12_retiredBlocks : ByteArray := prog_13_method_114_code
def yX12_retiredBlocks : MethodName := ⟨"SyncTreeModel", "retiredBlocks", "()I"⟩
theorem Y_X12_retiredBlocks : tY yX12_retiredBlocks cX12_retiredBlocks 3 (some .int) 0 := ⟨W_9_121, W_1_14, ⟨by decide +kernel, by decide +kernel⟩, by decide +kernel⟩
theorem dX12_retiredBlocks_0 : decode cX12_retiredBlocks 0 = .ok (.iconst 0, 1) := by decide +kernel
theorem dX12_retiredBlocks_1 : decode cX12_retiredBlocks 1 = .ok (.istore_n 1, 1) := by decide +kernel
theorem dX12_retiredBlocks_2 : decode cX12_retiredBlocks 2 = .ok (.iconst 0, 1) := by decide +kernel
theorem dX12_retiredBlocks_3 : decode cX12_retiredBlocks 3 = .ok (.istore_n 2, 1) := by decide +kernel
theorem dX12_retiredBlocks_4 : decode cX12_retiredBlocks 4 = .ok (.iload_n 2, 1) := by decide +kernel
theorem dX12_retiredBlocks_5 : decode cX12_retiredBlocks 5 = .ok (.aload_n 0, 1) := by decide +kernel
theorem dX12_retiredBlocks_6 : decode cX12_retiredBlocks 6 = .ok (.getfield 41, 3) := by decide +kernel
theorem dX12_retiredBlocks_9 : decode cX12_retiredBlocks 9 = .ok (.if_icmp .ge 26, 3) := by decide +kernel
theorem dX12_retiredBlocks_12 : decode cX12_retiredBlocks 12 = .ok (.iload_n 1, 1) := by decide +kernel
theorem dX12_retiredBlocks_13 : decode cX12_retiredBlocks 13 = .ok (.aload_n 0, 1) := by decide +kernel
theorem dX12_retiredBlocks_14 : decode cX12_retiredBlocks 14 = .ok (.getfield 190, 3) := by decide +kernel
theorem dX12_retiredBlocks_17 : decode cX12_retiredBlocks 17 = .ok (.iload_n 2, 1) := by decide +kernel
theorem dX12_retiredBlocks_18 : decode cX12_retiredBlocks 18 = .ok (.iaload, 1) := by decide +kernel
theorem dX12_retiredBlocks_19 : decode cX12_retiredBlocks 19 = .ok (.ifCond .le 7, 3) := by decide +kernel
theorem dX12_retiredBlocks_22 : decode cX12_retiredBlocks 22 = .ok (.iconst 1, 1) := by decide +kernel
theorem dX12_retiredBlocks_23 : decode cX12_retiredBlocks 23 = .ok (.goto 4, 3) := by decide +kernel
theorem dX12_retiredBlocks_26 : decode cX12_retiredBlocks 26 = .ok (.iconst 0, 1) := by decide +kernel
theorem dX12_retiredBlocks_27 : decode cX12_retiredBlocks 27 = .ok (.iadd, 1) := by decide +kernel
theorem dX12_retiredBlocks_28 : decode cX12_retiredBlocks 28 = .ok (.istore_n 1, 1) := by decide +kernel
theorem dX12_retiredBlocks_29 : decode cX12_retiredBlocks 29 = .ok (.iinc 2 1, 3) := by decide +kernel
theorem dX12_retiredBlocks_32 : decode cX12_retiredBlocks 32 = .ok (.goto (-28), 3) := by decide +kernel
theorem dX12_retiredBlocks_35 : decode cX12_retiredBlocks 35 = .ok (.iload_n 1, 1) := by decide +kernel
theorem dX12_retiredBlocks_36 : decode cX12_retiredBlocks 36 = .ok (.ireturn, 1) := by decide +kernel
def J_X12_retiredBlocks_27 (b0 fu : Nat) (rc4 : Nat → Int32 → Int32 → tM → Option ((Int32) × tM)) (x0 : Nat) (x2 : Int32) (s0 : Int32) (s1 : Int32) (σ : tM) : Option ((Int32) × tM) := ltb (((s0) + (s1) : Int32)) (fun y11 => ltb ((x2) + Int32.ofInt 1) (fun y12 => rc4 (x0) (y11) (y12) (σ)))
def L_X12_retiredBlocks_4 (b0 fu : Nat)  : Nat → Nat → Int32 → Int32 → tM → Option ((Int32) × tM)
  | 0, _, _, _, _ => none
  | n + 1, x0, x1, x2, σ => ltb (L_X12_retiredBlocks_4 b0 fu  n) (fun rc4 => ckO b0 (σ) (x0) 11 (if (tI (σ) (x0) 7) ≤ (x2) then some (x1, σ) else osm (tA (σ) (x0) 24) (fun a4 => ckR b0 (σ) (a4) 0 (fun n8 => ckI (x2) (n8) (if (tI (σ) (a4) ((x2).toNatClampNeg)) ≤ (0) then J_X12_retiredBlocks_27 b0 fu rc4  (x0) (x2) (x1) (0) (σ) else J_X12_retiredBlocks_27 b0 fu rc4  (x0) (x2) (x1) (1) (σ))))))
def m_X12_retiredBlocks (b0 fu : Nat) (a0 : Nat) (σ : tM) : Option ((Int32) × tM) := grw σ (L_X12_retiredBlocks_4 b0 fu  (fu) (a0) (0) (0) (σ))
set_option maxRecDepth 100000 in
set_option maxHeartbeats 1000000 in
theorem j_X12_retiredBlocks_27 {p : Program} {l : Launch} {e : Env} {s : State} {m : MethodId} {args : Array Value} {below : List Frame} {meth : Method} {c : Code} {D : va_G} {aC : Nat → ClassId} {b0 fu : Nat} {σ0 τ : tM} {v : Int32} {rc4 : Nat → Int32 → Int32 → tM → Option ((Int32) × tM)} (C : tCx p l s m args meth c yX12_retiredBlocks.cls cX12_retiredBlocks 3 (some .int) D aC b0 σ0) (htab : ∀ x ∈ c.exceptionTable.toList, False) (hin : meth.name = yX12_retiredBlocks.name) (hrc4 : ∀ (x0 : Nat) (x1 : Int32) (x2 : Int32) (ρ : tM), rc4 x0 x1 x2 ρ = some (v, τ) → tX p l e s m args below meth c 3 0 0 D aC b0 σ0 (.inl (some (.int v))) τ 4 [(0, .ref (x0)), (1, .int (x1)), (2, .int (x2))] [] ρ) {x0 : Nat} {x2 : Int32} {s0 : Int32} {s1 : Int32} {σ : tM} (hm : J_X12_retiredBlocks_27 b0 fu rc4 x0 x2 s0 s1 σ = some (v, τ)) : tX p l e s m args below meth c 3 0 0 D aC b0 σ0 (.inl (some (.int v))) τ 27 [(0, .ref (x0)), (2, .int (x2))] [.int (s1), .int (s0)] σ := by
  unfold J_X12_retiredBlocks_27 at hm
  refine zx_iadd C dX12_retiredBlocks_27 ?_
  refine zx_topi (fun y11 hy11 => ?_)
  replace hm := ltb_e hm hy11
  refine zx_istore_n C [(1, .int (y11)), (0, .ref (x0)), (2, .int (x2))] dX12_retiredBlocks_28 rfl (by decide) rfl ?_
  obtain ⟨y12, hy12⟩ : ∃ z : Int32, z = (x2) + Int32.ofInt 1 := ⟨_, rfl⟩
  replace hm := ltb_e hm hy12
  refine zx_iinc C [(2, .int (y12)), (1, .int (y11)), (0, .ref (x0))] dX12_retiredBlocks_29 2 rfl hy12.symm (by decide) rfl ?_
  refine zx_goto C 4 dX12_retiredBlocks_32 (by decide) ?_
  exact zx_lv [2, 1, 0] [(0, .ref (x0)), (1, .int (y11)), (2, .int (y12))] rfl (hrc4 _ _ _ _ hm)
set_option maxRecDepth 100000 in
set_option maxHeartbeats 1000000 in
theorem l_X12_retiredBlocks_4 {p : Program} {l : Launch} {e : Env} {s : State} {m : MethodId} {args : Array Value} {below : List Frame} {meth : Method} {c : Code} {D : va_G} {aC : Nat → ClassId} {b0 fu : Nat} {σ0 τ : tM} {v : Int32}  (C : tCx p l s m args meth c yX12_retiredBlocks.cls cX12_retiredBlocks 3 (some .int) D aC b0 σ0) (htab : ∀ x ∈ c.exceptionTable.toList, False) (hin : meth.name = yX12_retiredBlocks.name)  : ∀ (n : Nat) (x0 : Nat) (x1 : Int32) (x2 : Int32) (σ : tM), L_X12_retiredBlocks_4 b0 fu  n x0 x1 x2 σ = some (v, τ) → tX p l e s m args below meth c 3 0 0 D aC b0 σ0 (.inl (some (.int v))) τ 4 [(0, .ref (x0)), (1, .int (x1)), (2, .int (x2))] [] σ := by
  intro n
  induction n with
  | zero => intro x0 x1 x2 σ hm; unfold L_X12_retiredBlocks_4 at hm; cases hm
  | succ n ih =>
    intro x0 x1 x2 σ hm
    unfold L_X12_retiredBlocks_4 at hm
    obtain ⟨rc4, hrc⟩ : ∃ z, z = L_X12_retiredBlocks_4 b0 fu  n := ⟨_, rfl⟩
    replace hm := ltb_e hm hrc
    rw [← hrc] at ih
    have hrc4 := ih
    clear ih hrc
    refine zx_iload_n C dX12_retiredBlocks_4 2 rfl ?_
    refine zx_aload_n C dX12_retiredBlocks_5 0 rfl ?_
    obtain ⟨k1, i2, hm⟩ := ckO_e hm
    refine zx_get (j := 7) C tC_11 k1 i2 ⟨by decide, Or.inl W_6_226⟩ dX12_retiredBlocks_6 (.int (tI (σ) (x0) 7)) rfl ?_
    refine zx_icmp_ge C 35 dX12_retiredBlocks_9 (by decide) (fun c3 => ?_) (fun c3 => ?_)
    · replace hm := ip_e hm c3
      refine zx_iload_n C dX12_retiredBlocks_35 1 rfl ?_
      obtain ⟨rfl, rfl⟩ := ret_e hm
      exact zx_iret C rfl rfl rfl dX12_retiredBlocks_36
    · replace hm := in_e hm c3
      refine zx_iload_n C dX12_retiredBlocks_12 1 rfl ?_
      refine zx_aload_n C dX12_retiredBlocks_13 0 rfl ?_
      obtain ⟨a4, h5, hm⟩ := osm_e hm
      refine zx_get (j := 24) C tC_11 k1 i2 ⟨by decide, Or.inl W_7_3⟩ dX12_retiredBlocks_14 (.ref a4) (rf_s h5) ?_
      refine zx_iload_n C dX12_retiredBlocks_17 2 rfl ?_
      obtain ⟨n8, k6, i7, hm⟩ := ckR_e hm
      obtain ⟨h9, hm⟩ := ckI_e hm
      refine zx_iald C k6 i7 h9 dX12_retiredBlocks_18 ?_
      refine zx_if_le C 26 dX12_retiredBlocks_19 (by decide) (fun c10 => ?_) (fun c10 => ?_)
      · replace hm := ip_e hm c10
        refine zx_iconst (v := 0) C dX12_retiredBlocks_26 (by decide) ?_
        exact zx_lv [0, 2] [(0, .ref (x0)), (2, .int (x2))] rfl (j_X12_retiredBlocks_27 C htab hin hrc4   hm)
      · replace hm := in_e hm c10
        refine zx_iconst (v := 1) C dX12_retiredBlocks_22 (by decide) ?_
        refine zx_goto C 27 dX12_retiredBlocks_23 (by decide) ?_
        exact zx_lv [0, 2] [(0, .ref (x0)), (2, .int (x2))] rfl (j_X12_retiredBlocks_27 C htab hin hrc4   hm)
set_option maxRecDepth 100000 in
set_option maxHeartbeats 1000000 in
theorem c_X12_retiredBlocks {l : Launch} {D : va_G} {aC : Nat → ClassId} {b0 fu : Nat} {a0 : Nat} {σ τ : tM} {v : Int32} (hm : m_X12_retiredBlocks b0 fu a0 σ = some (v, τ)) : tMt l D aC b0 yX12_retiredBlocks (Cond.code yX12_retiredBlocks cX12_retiredBlocks 3 (some .int)) 0 0 [.ref (a0)] σ (.inl (some (.int v))) τ := by
  unfold m_X12_retiredBlocks at hm
  obtain ⟨hg, hm⟩ := grw_e hm
  refine tMt_of (n := 0) rfl (Nat.le_of_ble_eq_true rfl) hg ?_
  intro p e s m below meth c C htab hin
  refine zx_lv [0] [(0, .ref (a0))] rfl ?_
  refine zx_iconst (v := 0) C dX12_retiredBlocks_0 (by decide) ?_
  refine zx_istore_n C [(1, .int (0)), (0, .ref (a0))] dX12_retiredBlocks_1 rfl (by decide) rfl ?_
  refine zx_iconst (v := 0) C dX12_retiredBlocks_2 (by decide) ?_
  refine zx_istore_n C [(2, .int (0)), (1, .int (0)), (0, .ref (a0))] dX12_retiredBlocks_3 rfl (by decide) rfl ?_
  exact zx_lv [2, 1, 0] [(0, .ref (a0)), (1, .int (0)), (2, .int (0))] rfl (l_X12_retiredBlocks_4 C htab hin  _ _ _ _ _ hm)
abbrev cX12_freeNodes : ByteArray := prog_13_method_115_code
def yX12_freeNodes : MethodName := ⟨"SyncTreeModel", "freeNodes", "()I"⟩
theorem Y_X12_freeNodes : tY yX12_freeNodes cX12_freeNodes 3 (some .int) 0 := ⟨W_9_129, W_1_14, ⟨by decide +kernel, by decide +kernel⟩, by decide +kernel⟩
theorem dX12_freeNodes_0 : decode cX12_freeNodes 0 = .ok (.iconst 0, 1) := by decide +kernel
theorem dX12_freeNodes_1 : decode cX12_freeNodes 1 = .ok (.istore_n 1, 1) := by decide +kernel
theorem dX12_freeNodes_2 : decode cX12_freeNodes 2 = .ok (.iconst 0, 1) := by decide +kernel
theorem dX12_freeNodes_3 : decode cX12_freeNodes 3 = .ok (.istore_n 2, 1) := by decide +kernel
theorem dX12_freeNodes_4 : decode cX12_freeNodes 4 = .ok (.iload_n 2, 1) := by decide +kernel
theorem dX12_freeNodes_5 : decode cX12_freeNodes 5 = .ok (.bipush 64, 2) := by decide +kernel
theorem dX12_freeNodes_7 : decode cX12_freeNodes 7 = .ok (.if_icmp .ge 26, 3) := by decide +kernel
theorem dX12_freeNodes_10 : decode cX12_freeNodes 10 = .ok (.iload_n 1, 1) := by decide +kernel
theorem dX12_freeNodes_11 : decode cX12_freeNodes 11 = .ok (.aload_n 0, 1) := by decide +kernel
theorem dX12_freeNodes_12 : decode cX12_freeNodes 12 = .ok (.iload_n 2, 1) := by decide +kernel
theorem dX12_freeNodes_13 : decode cX12_freeNodes 13 = .ok (.iconst 0, 1) := by decide +kernel
theorem dX12_freeNodes_14 : decode cX12_freeNodes 14 = .ok (.invokevirtual 247, 3) := by decide +kernel
theorem dX12_freeNodes_17 : decode cX12_freeNodes 17 = .ok (.ifCond .ne 7, 3) := by decide +kernel
theorem dX12_freeNodes_20 : decode cX12_freeNodes 20 = .ok (.iconst 1, 1) := by decide +kernel
theorem dX12_freeNodes_21 : decode cX12_freeNodes 21 = .ok (.goto 4, 3) := by decide +kernel
theorem dX12_freeNodes_24 : decode cX12_freeNodes 24 = .ok (.iconst 0, 1) := by decide +kernel
theorem dX12_freeNodes_25 : decode cX12_freeNodes 25 = .ok (.iadd, 1) := by decide +kernel
theorem dX12_freeNodes_26 : decode cX12_freeNodes 26 = .ok (.istore_n 1, 1) := by decide +kernel
theorem dX12_freeNodes_27 : decode cX12_freeNodes 27 = .ok (.iinc 2 1, 3) := by decide +kernel
theorem dX12_freeNodes_30 : decode cX12_freeNodes 30 = .ok (.goto (-26), 3) := by decide +kernel
theorem dX12_freeNodes_33 : decode cX12_freeNodes 33 = .ok (.iload_n 1, 1) := by decide +kernel
theorem dX12_freeNodes_34 : decode cX12_freeNodes 34 = .ok (.ireturn, 1) := by decide +kernel
def J_X12_freeNodes_25 (b0 fu : Nat) (rc4 : Nat → Int32 → Int32 → tM → Option ((Int32) × tM)) (x0 : Nat) (x2 : Int32) (s0 : Int32) (s1 : Int32) (σ : tM) : Option ((Int32) × tM) := ltb (((s0) + (s1) : Int32)) (fun y8 => ltb ((x2) + Int32.ofInt 1) (fun y9 => rc4 (x0) (y8) (y9) (σ)))
def L_X12_freeNodes_4 (b0 fu : Nat)  : Nat → Nat → Int32 → Int32 → tM → Option ((Int32) × tM)
  | 0, _, _, _, _ => none
  | n + 1, x0, x1, x2, σ => ltb (L_X12_freeNodes_4 b0 fu  n) (fun rc4 => if (64) ≤ (x2) then some (x1, σ) else ckO b0 (σ) (x0) 11 (cll (m_X12_node b0 fu (x0) (x2) (0) (σ)) (fun v4 ρ5 => if (v4) = (0) then J_X12_freeNodes_25 b0 fu rc4  (x0) (x2) (x1) (1) (ρ5) else J_X12_freeNodes_25 b0 fu rc4  (x0) (x2) (x1) (0) (ρ5))))
def m_X12_freeNodes (b0 fu : Nat) (a0 : Nat) (σ : tM) : Option ((Int32) × tM) := grw σ (L_X12_freeNodes_4 b0 fu  (fu) (a0) (0) (0) (σ))
set_option maxRecDepth 100000 in
set_option maxHeartbeats 1000000 in
theorem j_X12_freeNodes_25 {p : Program} {l : Launch} {e : Env} {s : State} {m : MethodId} {args : Array Value} {below : List Frame} {meth : Method} {c : Code} {D : va_G} {aC : Nat → ClassId} {b0 fu : Nat} {σ0 τ : tM} {v : Int32} {rc4 : Nat → Int32 → Int32 → tM → Option ((Int32) × tM)} (C : tCx p l s m args meth c yX12_freeNodes.cls cX12_freeNodes 3 (some .int) D aC b0 σ0) (htab : ∀ x ∈ c.exceptionTable.toList, False) (hin : meth.name = yX12_freeNodes.name) (hrc4 : ∀ (x0 : Nat) (x1 : Int32) (x2 : Int32) (ρ : tM), rc4 x0 x1 x2 ρ = some (v, τ) → tX p l e s m args below meth c 3 1 22 D aC b0 σ0 (.inl (some (.int v))) τ 4 [(0, .ref (x0)), (1, .int (x1)), (2, .int (x2))] [] ρ) {x0 : Nat} {x2 : Int32} {s0 : Int32} {s1 : Int32} {σ : tM} (hm : J_X12_freeNodes_25 b0 fu rc4 x0 x2 s0 s1 σ = some (v, τ)) : tX p l e s m args below meth c 3 1 22 D aC b0 σ0 (.inl (some (.int v))) τ 25 [(0, .ref (x0)), (2, .int (x2))] [.int (s1), .int (s0)] σ := by
  unfold J_X12_freeNodes_25 at hm
  refine zx_iadd C dX12_freeNodes_25 ?_
  refine zx_topi (fun y8 hy8 => ?_)
  replace hm := ltb_e hm hy8
  refine zx_istore_n C [(1, .int (y8)), (0, .ref (x0)), (2, .int (x2))] dX12_freeNodes_26 rfl (by decide) rfl ?_
  obtain ⟨y9, hy9⟩ : ∃ z : Int32, z = (x2) + Int32.ofInt 1 := ⟨_, rfl⟩
  replace hm := ltb_e hm hy9
  refine zx_iinc C [(2, .int (y9)), (1, .int (y8)), (0, .ref (x0))] dX12_freeNodes_27 2 rfl hy9.symm (by decide) rfl ?_
  refine zx_goto C 4 dX12_freeNodes_30 (by decide) ?_
  exact zx_lv [2, 1, 0] [(0, .ref (x0)), (1, .int (y8)), (2, .int (y9))] rfl (hrc4 _ _ _ _ hm)
set_option maxRecDepth 100000 in
set_option maxHeartbeats 1000000 in
theorem l_X12_freeNodes_4 {p : Program} {l : Launch} {e : Env} {s : State} {m : MethodId} {args : Array Value} {below : List Frame} {meth : Method} {c : Code} {D : va_G} {aC : Nat → ClassId} {b0 fu : Nat} {σ0 τ : tM} {v : Int32}  (C : tCx p l s m args meth c yX12_freeNodes.cls cX12_freeNodes 3 (some .int) D aC b0 σ0) (htab : ∀ x ∈ c.exceptionTable.toList, False) (hin : meth.name = yX12_freeNodes.name)  : ∀ (n : Nat) (x0 : Nat) (x1 : Int32) (x2 : Int32) (σ : tM), L_X12_freeNodes_4 b0 fu  n x0 x1 x2 σ = some (v, τ) → tX p l e s m args below meth c 3 1 22 D aC b0 σ0 (.inl (some (.int v))) τ 4 [(0, .ref (x0)), (1, .int (x1)), (2, .int (x2))] [] σ := by
  intro n
  induction n with
  | zero => intro x0 x1 x2 σ hm; unfold L_X12_freeNodes_4 at hm; cases hm
  | succ n ih =>
    intro x0 x1 x2 σ hm
    unfold L_X12_freeNodes_4 at hm
    obtain ⟨rc4, hrc⟩ : ∃ z, z = L_X12_freeNodes_4 b0 fu  n := ⟨_, rfl⟩
    replace hm := ltb_e hm hrc
    rw [← hrc] at ih
    have hrc4 := ih
    clear ih hrc
    refine zx_iload_n C dX12_freeNodes_4 2 rfl ?_
    refine zx_bipush (v := 64) C dX12_freeNodes_5 (by decide) ?_
    refine zx_icmp_ge C 33 dX12_freeNodes_7 (by decide) (fun c1 => ?_) (fun c1 => ?_)
    · replace hm := ip_e hm c1
      refine zx_iload_n C dX12_freeNodes_33 1 rfl ?_
      obtain ⟨rfl, rfl⟩ := ret_e hm
      exact zx_iret C rfl rfl rfl dX12_freeNodes_34
    · replace hm := in_e hm c1
      refine zx_iload_n C dX12_freeNodes_10 1 rfl ?_
      refine zx_aload_n C dX12_freeNodes_11 0 rfl ?_
      refine zx_iload_n C dX12_freeNodes_12 2 rfl ?_
      refine zx_iconst (v := 0) C dX12_freeNodes_13 (by decide) ?_
      obtain ⟨k2, i3, hm⟩ := ckO_e hm
      obtain ⟨v4, ρ5, h6, hm⟩ := cll_e hm
      refine zx_callV (σ := σ) C [.int (x2), .int (0)] tC_11 k2 i3 Y_X12_node W_8_40 W_8_42 Wp_80 (c_X12_node h6) (by decide) (by decide) rfl (Nat.le_of_ble_eq_true rfl) dX12_freeNodes_14 rfl ?_
      refine zx_if_ne C 24 dX12_freeNodes_17 (by decide) (fun c7 => ?_) (fun c7 => ?_)
      · replace hm := in_e hm c7
        refine zx_iconst (v := 0) C dX12_freeNodes_24 (by decide) ?_
        exact zx_lv [0, 2] [(0, .ref (x0)), (2, .int (x2))] rfl (j_X12_freeNodes_25 C htab hin hrc4   hm)
      · replace hm := ip_e hm c7
        refine zx_iconst (v := 1) C dX12_freeNodes_20 (by decide) ?_
        refine zx_goto C 25 dX12_freeNodes_21 (by decide) ?_
        exact zx_lv [0, 2] [(0, .ref (x0)), (2, .int (x2))] rfl (j_X12_freeNodes_25 C htab hin hrc4   hm)
set_option maxRecDepth 100000 in
set_option maxHeartbeats 1000000 in
theorem c_X12_freeNodes {l : Launch} {D : va_G} {aC : Nat → ClassId} {b0 fu : Nat} {a0 : Nat} {σ τ : tM} {v : Int32} (hm : m_X12_freeNodes b0 fu a0 σ = some (v, τ)) : tMt l D aC b0 yX12_freeNodes (Cond.code yX12_freeNodes cX12_freeNodes 3 (some .int)) 1 22 [.ref (a0)] σ (.inl (some (.int v))) τ := by
  unfold m_X12_freeNodes at hm
  obtain ⟨hg, hm⟩ := grw_e hm
  refine tMt_of (n := 0) rfl (Nat.le_of_ble_eq_true rfl) hg ?_
  intro p e s m below meth c C htab hin
  refine zx_lv [0] [(0, .ref (a0))] rfl ?_
  refine zx_iconst (v := 0) C dX12_freeNodes_0 (by decide) ?_
  refine zx_istore_n C [(1, .int (0)), (0, .ref (a0))] dX12_freeNodes_1 rfl (by decide) rfl ?_
  refine zx_iconst (v := 0) C dX12_freeNodes_2 (by decide) ?_
  refine zx_istore_n C [(2, .int (0)), (1, .int (0)), (0, .ref (a0))] dX12_freeNodes_3 rfl (by decide) rfl ?_
  exact zx_lv [2, 1, 0] [(0, .ref (a0)), (1, .int (0)), (2, .int (0))] rfl (l_X12_freeNodes_4 C htab hin  _ _ _ _ _ hm)
