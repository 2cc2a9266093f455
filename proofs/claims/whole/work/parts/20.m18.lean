abbrev cX12_isBelow : ByteArray := prog_13_method_81_code
def yX12_isBelow : MethodName := ⟨"SyncTreeModel", "isBelow", "(II)Z"⟩
theorem Y_X12_isBelow : tY yX12_isBelow cX12_isBelow 4 (some .boolean) 2 := ⟨W_8_212, W_1_14, ⟨by decide +kernel, by decide +kernel⟩, by decide +kernel⟩
theorem dX12_isBelow_0 : decode cX12_isBelow 0 = .ok (.iload_n 1, 1) := by decide +kernel
theorem dX12_isBelow_1 : decode cX12_isBelow 1 = .ok (.istore_n 3, 1) := by decide +kernel
theorem dX12_isBelow_2 : decode cX12_isBelow 2 = .ok (.iload_n 3, 1) := by decide +kernel
theorem dX12_isBelow_3 : decode cX12_isBelow 3 = .ok (.iload_n 2, 1) := by decide +kernel
theorem dX12_isBelow_4 : decode cX12_isBelow 4 = .ok (.if_icmp .eq 17, 3) := by decide +kernel
theorem dX12_isBelow_7 : decode cX12_isBelow 7 = .ok (.iload_n 3, 1) := by decide +kernel
theorem dX12_isBelow_8 : decode cX12_isBelow 8 = .ok (.ifCond .eq 13, 3) := by decide +kernel
theorem dX12_isBelow_11 : decode cX12_isBelow 11 = .ok (.aload_n 0, 1) := by decide +kernel
theorem dX12_isBelow_12 : decode cX12_isBelow 12 = .ok (.iload_n 3, 1) := by decide +kernel
theorem dX12_isBelow_13 : decode cX12_isBelow 13 = .ok (.iconst 3, 1) := by decide +kernel
theorem dX12_isBelow_14 : decode cX12_isBelow 14 = .ok (.invokevirtual 247, 3) := by decide +kernel
theorem dX12_isBelow_17 : decode cX12_isBelow 17 = .ok (.istore_n 3, 1) := by decide +kernel
theorem dX12_isBelow_18 : decode cX12_isBelow 18 = .ok (.goto (-16), 3) := by decide +kernel
theorem dX12_isBelow_21 : decode cX12_isBelow 21 = .ok (.iload_n 3, 1) := by decide +kernel
theorem dX12_isBelow_22 : decode cX12_isBelow 22 = .ok (.iload_n 2, 1) := by decide +kernel
theorem dX12_isBelow_23 : decode cX12_isBelow 23 = .ok (.if_icmp .ne 7, 3) := by decide +kernel
theorem dX12_isBelow_26 : decode cX12_isBelow 26 = .ok (.iconst 1, 1) := by decide +kernel
theorem dX12_isBelow_27 : decode cX12_isBelow 27 = .ok (.goto 4, 3) := by decide +kernel
theorem dX12_isBelow_30 : decode cX12_isBelow 30 = .ok (.iconst 0, 1) := by decide +kernel
theorem dX12_isBelow_31 : decode cX12_isBelow 31 = .ok (.ireturn, 1) := by decide +kernel
def J_X12_isBelow_31 (b0 fu : Nat)  (s0 : Int32) (σ : tM) : Option ((Int32) × tM) := ckZ (s0) (some (s0, σ))
def J_X12_isBelow_21 (b0 fu : Nat)  (x2 : Int32) (x3 : Int32) (σ : tM) : Option ((Int32) × tM) := if (x3) = (x2) then J_X12_isBelow_31 b0 fu   (1) (σ) else J_X12_isBelow_31 b0 fu   (0) (σ)
def L_X12_isBelow_2 (b0 fu : Nat)  : Nat → Nat → Int32 → Int32 → tM → Option ((Int32) × tM)
  | 0, _, _, _, _ => none
  | n + 1, x0, x2, x3, σ => ltb (L_X12_isBelow_2 b0 fu  n) (fun rc2 => if (x3) = (x2) then J_X12_isBelow_21 b0 fu   (x2) (x3) (σ) else if (x3) = (0) then J_X12_isBelow_21 b0 fu   (x2) (x3) (σ) else ckO b0 (σ) (x0) 11 (cll (m_X12_node b0 fu (x0) (x3) (3) (σ)) (fun v7 ρ8 => rc2 (x0) (x2) (v7) (ρ8))))
def m_X12_isBelow (b0 fu : Nat) (a0 : Nat) (p0 : Int32) (p1 : Int32) (σ : tM) : Option ((Int32) × tM) := grw σ (L_X12_isBelow_2 b0 fu  (fu) (a0) (p1) (p0) (σ))
set_option maxRecDepth 100000 in
set_option maxHeartbeats 1000000 in
theorem j_X12_isBelow_31 {p : Program} {l : Launch} {e : Env} {s : State} {m : MethodId} {args : Array Value} {below : List Frame} {meth : Method} {c : Code} {D : va_G} {aC : Nat → ClassId} {b0 fu : Nat} {σ0 τ : tM} {v : Int32}  (C : tCx p l s m args meth c yX12_isBelow.cls cX12_isBelow 4 (some .boolean) D aC b0 σ0) (htab : ∀ x ∈ c.exceptionTable.toList, False) (hin : meth.name = yX12_isBelow.name)  {s0 : Int32} {σ : tM} (hm : J_X12_isBelow_31 b0 fu  s0 σ = some (v, τ)) : tX p l e s m args below meth c 4 1 22 D aC b0 σ0 (.inl (some (.int v))) τ 31 [] [.int (s0)] σ := by
  unfold J_X12_isBelow_31 at hm
  obtain ⟨h3, hm⟩ := ckZ_e hm
  obtain ⟨rfl, rfl⟩ := ret_e hm
  exact zx_zret C rfl h3 rfl rfl dX12_isBelow_31
set_option maxRecDepth 100000 in
set_option maxHeartbeats 1000000 in
theorem j_X12_isBelow_21 {p : Program} {l : Launch} {e : Env} {s : State} {m : MethodId} {args : Array Value} {below : List Frame} {meth : Method} {c : Code} {D : va_G} {aC : Nat → ClassId} {b0 fu : Nat} {σ0 τ : tM} {v : Int32}  (C : tCx p l s m args meth c yX12_isBelow.cls cX12_isBelow 4 (some .boolean) D aC b0 σ0) (htab : ∀ x ∈ c.exceptionTable.toList, False) (hin : meth.name = yX12_isBelow.name)  {x2 : Int32} {x3 : Int32} {σ : tM} (hm : J_X12_isBelow_21 b0 fu  x2 x3 σ = some (v, τ)) : tX p l e s m args below meth c 4 1 22 D aC b0 σ0 (.inl (some (.int v))) τ 21 [(2, .int (x2)), (3, .int (x3))] [] σ := by
  unfold J_X12_isBelow_21 at hm
  refine zx_iload_n C dX12_isBelow_21 1 rfl ?_
  refine zx_iload_n C dX12_isBelow_22 0 rfl ?_
  refine zx_icmp_ne C 30 dX12_isBelow_23 (by decide) (fun c2 => ?_) (fun c2 => ?_)
  · replace hm := in_e hm c2
    refine zx_iconst (v := 0) C dX12_isBelow_30 (by decide) ?_
    exact zx_lv [] [] rfl (j_X12_isBelow_31 C htab hin    hm)
  · replace hm := ip_e hm c2
    refine zx_iconst (v := 1) C dX12_isBelow_26 (by decide) ?_
    refine zx_goto C 31 dX12_isBelow_27 (by decide) ?_
    exact zx_lv [] [] rfl (j_X12_isBelow_31 C htab hin    hm)
set_option maxRecDepth 100000 in
set_option maxHeartbeats 1000000 in
theorem l_X12_isBelow_2 {p : Program} {l : Launch} {e : Env} {s : State} {m : MethodId} {args : Array Value} {below : List Frame} {meth : Method} {c : Code} {D : va_G} {aC : Nat → ClassId} {b0 fu : Nat} {σ0 τ : tM} {v : Int32}  (C : tCx p l s m args meth c yX12_isBelow.cls cX12_isBelow 4 (some .boolean) D aC b0 σ0) (htab : ∀ x ∈ c.exceptionTable.toList, False) (hin : meth.name = yX12_isBelow.name)  : ∀ (n : Nat) (x0 : Nat) (x2 : Int32) (x3 : Int32) (σ : tM), L_X12_isBelow_2 b0 fu  n x0 x2 x3 σ = some (v, τ) → tX p l e s m args below meth c 4 1 22 D aC b0 σ0 (.inl (some (.int v))) τ 2 [(0, .ref (x0)), (2, .int (x2)), (3, .int (x3))] [] σ := by
  intro n
  induction n with
  | zero => intro x0 x2 x3 σ hm; unfold L_X12_isBelow_2 at hm; cases hm
  | succ n ih =>
    intro x0 x2 x3 σ hm
    unfold L_X12_isBelow_2 at hm
    obtain ⟨rc2, hrc⟩ : ∃ z, z = L_X12_isBelow_2 b0 fu  n := ⟨_, rfl⟩
    replace hm := ltb_e hm hrc
    rw [← hrc] at ih
    have hrc2 := ih
    clear ih hrc
    refine zx_iload_n C dX12_isBelow_2 2 rfl ?_
    refine zx_iload_n C dX12_isBelow_3 1 rfl ?_
    refine zx_icmp_eq C 21 dX12_isBelow_4 (by decide) (fun c1 => ?_) (fun c1 => ?_)
    · replace hm := ip_e hm c1
      exact zx_lv [1, 2] [(2, .int (x2)), (3, .int (x3))] rfl (j_X12_isBelow_21 C htab hin    hm)
    · replace hm := in_e hm c1
      refine zx_iload_n C dX12_isBelow_7 2 rfl ?_
      refine zx_if_eq C 21 dX12_isBelow_8 (by decide) (fun c4 => ?_) (fun c4 => ?_)
      · replace hm := ip_e hm c4
        exact zx_lv [1, 2] [(2, .int (x2)), (3, .int (x3))] rfl (j_X12_isBelow_21 C htab hin    hm)
      · replace hm := in_e hm c4
        refine zx_aload_n C dX12_isBelow_11 0 rfl ?_
        refine zx_iload_n C dX12_isBelow_12 2 rfl ?_
        refine zx_iconst (v := 3) C dX12_isBelow_13 (by decide) ?_
        obtain ⟨k5, i6, hm⟩ := ckO_e hm
        obtain ⟨v7, ρ8, h9, hm⟩ := cll_e hm
        refine zx_callV (σ := σ) C [.int (x3), .int (3)] tC_11 k5 i6 Y_X12_node W_8_40 W_8_42 Wp_80 (c_X12_node h9) (by decide) (by decide) rfl (Nat.le_of_ble_eq_true rfl) dX12_isBelow_14 rfl ?_
        refine zx_istore_n C [(3, .int (v7)), (0, .ref (x0)), (2, .int (x2))] dX12_isBelow_17 rfl (by decide) rfl ?_
        refine zx_goto C 2 dX12_isBelow_18 (by decide) ?_
        exact zx_lv [1, 2, 0] [(0, .ref (x0)), (2, .int (x2)), (3, .int (v7))] rfl (hrc2 _ _ _ _ hm)
set_option maxRecDepth 100000 in
set_option maxHeartbeats 1000000 in
theorem c_X12_isBelow {l : Launch} {D : va_G} {aC : Nat → ClassId} {b0 fu : Nat} {a0 : Nat} {p0 : Int32} {p1 : Int32} {σ τ : tM} {v : Int32} (hm : m_X12_isBelow b0 fu a0 p0 p1 σ = some (v, τ)) : tMt l D aC b0 yX12_isBelow (Cond.code yX12_isBelow cX12_isBelow 4 (some .boolean)) 1 22 [.ref (a0), .int (p0), .int (p1)] σ (.inl (some (.int v))) τ := by
  unfold m_X12_isBelow at hm
  obtain ⟨hg, hm⟩ := grw_e hm
  refine tMt_of (n := 0) rfl (Nat.le_of_ble_eq_true rfl) hg ?_
  intro p e s m below meth c C htab hin
  refine zx_lv [0, 1, 2] [(0, .ref (a0)), (1, .int (p0)), (2, .int (p1))] rfl ?_
  refine zx_iload_n C dX12_isBelow_0 1 rfl ?_
  refine zx_istore_n C [(3, .int (p0)), (0, .ref (a0)), (1, .int (p0)), (2, .int (p1))] dX12_isBelow_1 rfl (by decide) rfl ?_
  exact zx_lv [1, 3, 0] [(0, .ref (a0)), (2, .int (p1)), (3, .int (p0))] rfl (l_X12_isBelow_2 C htab hin  _ _ _ _ _ hm)
abbrev cX12_mayRename : ByteArray := prog_13_method_82_code
def yX12_mayRename : MethodName := ⟨"SyncTreeModel", "mayRename", "(III)I"⟩
theorem Y_X12_mayRename : tY yX12_mayRename cX12_mayRename 5 (some .int) 3 := ⟨W_8_208, W_1_14, ⟨by decide +kernel, by decide +kernel⟩, by decide +kernel⟩
theorem dX12_mayRename_0 : decode cX12_mayRename 0 = .ok (.iload_n 3, 1) := by decide +kernel
theorem dX12_mayRename_1 : decode cX12_mayRename 1 = .ok (.ifCond .lt 17, 3) := by decide +kernel
theorem dX12_mayRename_4 : decode cX12_mayRename 4 = .ok (.aload_n 0, 1) := by decide +kernel
theorem dX12_mayRename_5 : decode cX12_mayRename 5 = .ok (.iload_n 3, 1) := by decide +kernel
theorem dX12_mayRename_6 : decode cX12_mayRename 6 = .ok (.iconst 0, 1) := by decide +kernel
theorem dX12_mayRename_7 : decode cX12_mayRename 7 = .ok (.invokevirtual 247, 3) := by decide +kernel
theorem dX12_mayRename_10 : decode cX12_mayRename 10 = .ok (.iconst 2, 1) := by decide +kernel
theorem dX12_mayRename_11 : decode cX12_mayRename 11 = .ok (.if_icmp .ne 7, 3) := by decide +kernel
theorem dX12_mayRename_14 : decode cX12_mayRename 14 = .ok (.iconst 1, 1) := by decide +kernel
theorem dX12_mayRename_15 : decode cX12_mayRename 15 = .ok (.goto 4, 3) := by decide +kernel
theorem dX12_mayRename_18 : decode cX12_mayRename 18 = .ok (.iconst 0, 1) := by decide +kernel
theorem dX12_mayRename_19 : decode cX12_mayRename 19 = .ok (.istore 4, 2) := by decide +kernel
theorem dX12_mayRename_21 : decode cX12_mayRename 21 = .ok (.aload_n 0, 1) := by decide +kernel
theorem dX12_mayRename_22 : decode cX12_mayRename 22 = .ok (.iload_n 1, 1) := by decide +kernel
theorem dX12_mayRename_23 : decode cX12_mayRename 23 = .ok (.iconst 0, 1) := by decide +kernel
theorem dX12_mayRename_24 : decode cX12_mayRename 24 = .ok (.invokevirtual 247, 3) := by decide +kernel
theorem dX12_mayRename_27 : decode cX12_mayRename 27 = .ok (.iconst 2, 1) := by decide +kernel
theorem dX12_mayRename_28 : decode cX12_mayRename 28 = .ok (.if_icmp .ne 44, 3) := by decide +kernel
theorem dX12_mayRename_31 : decode cX12_mayRename 31 = .ok (.aload_n 0, 1) := by decide +kernel
theorem dX12_mayRename_32 : decode cX12_mayRename 32 = .ok (.iload_n 2, 1) := by decide +kernel
theorem dX12_mayRename_33 : decode cX12_mayRename 33 = .ok (.iload_n 1, 1) := by decide +kernel
theorem dX12_mayRename_34 : decode cX12_mayRename 34 = .ok (.invokevirtual 440, 3) := by decide +kernel
theorem dX12_mayRename_37 : decode cX12_mayRename 37 = .ok (.ifCond .eq 6, 3) := by decide +kernel
theorem dX12_mayRename_40 : decode cX12_mayRename 40 = .ok (.bipush (-9), 2) := by decide +kernel
theorem dX12_mayRename_42 : decode cX12_mayRename 42 = .ok (.ireturn, 1) := by decide +kernel
theorem dX12_mayRename_43 : decode cX12_mayRename 43 = .ok (.iload_n 3, 1) := by decide +kernel
theorem dX12_mayRename_44 : decode cX12_mayRename 44 = .ok (.ifCond .lt 11, 3) := by decide +kernel
theorem dX12_mayRename_47 : decode cX12_mayRename 47 = .ok (.iload 4, 2) := by decide +kernel
theorem dX12_mayRename_49 : decode cX12_mayRename 49 = .ok (.ifCond .ne 6, 3) := by decide +kernel
theorem dX12_mayRename_52 : decode cX12_mayRename 52 = .ok (.bipush (-3), 2) := by decide +kernel
theorem dX12_mayRename_54 : decode cX12_mayRename 54 = .ok (.ireturn, 1) := by decide +kernel
theorem dX12_mayRename_55 : decode cX12_mayRename 55 = .ok (.iload 4, 2) := by decide +kernel
theorem dX12_mayRename_57 : decode cX12_mayRename 57 = .ok (.ifCond .eq 23, 3) := by decide +kernel
theorem dX12_mayRename_60 : decode cX12_mayRename 60 = .ok (.aload_n 0, 1) := by decide +kernel
theorem dX12_mayRename_61 : decode cX12_mayRename 61 = .ok (.iload_n 3, 1) := by decide +kernel
theorem dX12_mayRename_62 : decode cX12_mayRename 62 = .ok (.iconst 1, 1) := by decide +kernel
theorem dX12_mayRename_63 : decode cX12_mayRename 63 = .ok (.invokevirtual 247, 3) := by decide +kernel
theorem dX12_mayRename_66 : decode cX12_mayRename 66 = .ok (.ifCond .le 14, 3) := by decide +kernel
theorem dX12_mayRename_69 : decode cX12_mayRename 69 = .ok (.bipush (-5), 2) := by decide +kernel
theorem dX12_mayRename_71 : decode cX12_mayRename 71 = .ok (.ireturn, 1) := by decide +kernel
theorem dX12_mayRename_72 : decode cX12_mayRename 72 = .ok (.iload 4, 2) := by decide +kernel
theorem dX12_mayRename_74 : decode cX12_mayRename 74 = .ok (.ifCond .eq 6, 3) := by decide +kernel
theorem dX12_mayRename_77 : decode cX12_mayRename 77 = .ok (.bipush (-4), 2) := by decide +kernel
theorem dX12_mayRename_79 : decode cX12_mayRename 79 = .ok (.ireturn, 1) := by decide +kernel
theorem dX12_mayRename_80 : decode cX12_mayRename 80 = .ok (.iload_n 3, 1) := by decide +kernel
theorem dX12_mayRename_81 : decode cX12_mayRename 81 = .ok (.ifCond .ge 16, 3) := by decide +kernel
theorem dX12_mayRename_84 : decode cX12_mayRename 84 = .ok (.aload_n 0, 1) := by decide +kernel
theorem dX12_mayRename_85 : decode cX12_mayRename 85 = .ok (.iload_n 2, 1) := by decide +kernel
theorem dX12_mayRename_86 : decode cX12_mayRename 86 = .ok (.invokevirtual 412, 3) := by decide +kernel
theorem dX12_mayRename_89 : decode cX12_mayRename 89 = .ok (.ifCond .eq 8, 3) := by decide +kernel
theorem dX12_mayRename_92 : decode cX12_mayRename 92 = .ok (.bipush (-6), 2) := by decide +kernel
theorem dX12_mayRename_94 : decode cX12_mayRename 94 = .ok (.goto 4, 3) := by decide +kernel
theorem dX12_mayRename_97 : decode cX12_mayRename 97 = .ok (.iconst 0, 1) := by decide +kernel
theorem dX12_mayRename_98 : decode cX12_mayRename 98 = .ok (.ireturn, 1) := by decide +kernel
def J_X12_mayRename_98 (b0 fu : Nat)  (s0 : Int32) (σ : tM) : Option ((Int32) × tM) := some (s0, σ)
def J_X12_mayRename_97 (b0 fu : Nat)   (σ : tM) : Option ((Int32) × tM) := J_X12_mayRename_98 b0 fu   (0) (σ)
def J_X12_mayRename_80 (b0 fu : Nat)  (x0 : Nat) (x2 : Int32) (x3 : Int32) (σ : tM) : Option ((Int32) × tM) := if (0) ≤ (x3) then J_X12_mayRename_97 b0 fu    (σ) else ckO b0 (σ) (x0) 11 (cll (m_X12_lacks b0 fu (x0) (x2) (σ)) (fun v12 ρ13 => if (v12) = (0) then J_X12_mayRename_97 b0 fu    (ρ13) else J_X12_mayRename_98 b0 fu   ((-6)) (ρ13)))
def J_X12_mayRename_55 (b0 fu : Nat)  (x0 : Nat) (x2 : Int32) (x3 : Int32) (x4 : Int32) (σ : tM) : Option ((Int32) × tM) := if (x4) = (0) then J_X12_mayRename_80 b0 fu   (x0) (x2) (x3) (σ) else ckO b0 (σ) (x0) 11 (cll (m_X12_node b0 fu (x0) (x3) (1) (σ)) (fun v26 ρ27 => if (v26) ≤ (0) then J_X12_mayRename_80 b0 fu   (x0) (x2) (x3) (ρ27) else some ((-5), ρ27)))
def J_X12_mayRename_19 (b0 fu : Nat)  (x0 : Nat) (x1 : Int32) (x2 : Int32) (x3 : Int32) (s0 : Int32) (σ : tM) : Option ((Int32) × tM) := ckO b0 (σ) (x0) 11 (cll (m_X12_node b0 fu (x0) (x1) (0) (σ)) (fun v4 ρ5 => if (v4) = (2) then ckO b0 (ρ5) (x0) 11 (cll (m_X12_isBelow b0 fu (x0) (x2) (x1) (ρ5)) (fun v18 ρ19 => if (v18) = (0) then if (x3) < (0) then J_X12_mayRename_55 b0 fu   (x0) (x2) (x3) (s0) (ρ19) else if (s0) = (0) then some ((-3), ρ19) else J_X12_mayRename_55 b0 fu   (x0) (x2) (x3) (s0) (ρ19) else some ((-9), ρ19))) else if (s0) = (0) then J_X12_mayRename_80 b0 fu   (x0) (x2) (x3) (ρ5) else some ((-4), ρ5)))
def J_X12_mayRename_18 (b0 fu : Nat)  (x0 : Nat) (x1 : Int32) (x2 : Int32) (x3 : Int32) (σ : tM) : Option ((Int32) × tM) := J_X12_mayRename_19 b0 fu   (x0) (x1) (x2) (x3) (0) (σ)
def m_X12_mayRename (b0 fu : Nat) (a0 : Nat) (p0 : Int32) (p1 : Int32) (p2 : Int32) (σ : tM) : Option ((Int32) × tM) := grw σ (if (p2) < (0) then J_X12_mayRename_18 b0 fu   (a0) (p0) (p1) (p2) (σ) else ckO b0 (σ) (a0) 11 (cll (m_X12_node b0 fu (a0) (p2) (0) (σ)) (fun v33 ρ34 => if (v33) = (2) then J_X12_mayRename_19 b0 fu   (a0) (p0) (p1) (p2) (1) (ρ34) else J_X12_mayRename_18 b0 fu   (a0) (p0) (p1) (p2) (ρ34))))
set_option maxRecDepth 100000 in
set_option maxHeartbeats 1000000 in
theorem j_X12_mayRename_98 {p : Program} {l : Launch} {e : Env} {s : State} {m : MethodId} {args : Array Value} {below : List Frame} {meth : Method} {c : Code} {D : va_G} {aC : Nat → ClassId} {b0 fu : Nat} {σ0 τ : tM} {v : Int32}  (C : tCx p l s m args meth c yX12_mayRename.cls cX12_mayRename 5 (some .int) D aC b0 σ0) (htab : ∀ x ∈ c.exceptionTable.toList, False) (hin : meth.name = yX12_mayRename.name)  {s0 : Int32} {σ : tM} (hm : J_X12_mayRename_98 b0 fu  s0 σ = some (v, τ)) : tX p l e s m args below meth c 5 8 179 D aC b0 σ0 (.inl (some (.int v))) τ 98 [] [.int (s0)] σ := by
  unfold J_X12_mayRename_98 at hm
  obtain ⟨rfl, rfl⟩ := ret_e hm
  exact zx_iret C rfl rfl rfl dX12_mayRename_98
set_option maxRecDepth 100000 in
set_option maxHeartbeats 1000000 in
theorem j_X12_mayRename_97 {p : Program} {l : Launch} {e : Env} {s : State} {m : MethodId} {args : Array Value} {below : List Frame} {meth : Method} {c : Code} {D : va_G} {aC : Nat → ClassId} {b0 fu : Nat} {σ0 τ : tM} {v : Int32}  (C : tCx p l s m args meth c yX12_mayRename.cls cX12_mayRename 5 (some .int) D aC b0 σ0) (htab : ∀ x ∈ c.exceptionTable.toList, False) (hin : meth.name = yX12_mayRename.name)   {σ : tM} (hm : J_X12_mayRename_97 b0 fu   σ = some (v, τ)) : tX p l e s m args below meth c 5 8 179 D aC b0 σ0 (.inl (some (.int v))) τ 97 [] [] σ := by
  unfold J_X12_mayRename_97 at hm
  refine zx_iconst (v := 0) C dX12_mayRename_97 (by decide) ?_
  exact zx_lv [] [] rfl (j_X12_mayRename_98 C htab hin    hm)
set_option maxRecDepth 100000 in
set_option maxHeartbeats 1000000 in
theorem j_X12_mayRename_80 {p : Program} {l : Launch} {e : Env} {s : State} {m : MethodId} {args : Array Value} {below : List Frame} {meth : Method} {c : Code} {D : va_G} {aC : Nat → ClassId} {b0 fu : Nat} {σ0 τ : tM} {v : Int32}  (C : tCx p l s m args meth c yX12_mayRename.cls cX12_mayRename 5 (some .int) D aC b0 σ0) (htab : ∀ x ∈ c.exceptionTable.toList, False) (hin : meth.name = yX12_mayRename.name)  {x0 : Nat} {x2 : Int32} {x3 : Int32} {σ : tM} (hm : J_X12_mayRename_80 b0 fu  x0 x2 x3 σ = some (v, τ)) : tX p l e s m args below meth c 5 8 179 D aC b0 σ0 (.inl (some (.int v))) τ 80 [(0, .ref (x0)), (2, .int (x2)), (3, .int (x3))] [] σ := by
  unfold J_X12_mayRename_80 at hm
  refine zx_iload_n C dX12_mayRename_80 2 rfl ?_
  refine zx_if_ge C 97 dX12_mayRename_81 (by decide) (fun c9 => ?_) (fun c9 => ?_)
  · replace hm := ip_e hm c9
    exact zx_lv [] [] rfl (j_X12_mayRename_97 C htab hin    hm)
  · replace hm := in_e hm c9
    refine zx_aload_n C dX12_mayRename_84 0 rfl ?_
    refine zx_iload_n C dX12_mayRename_85 1 rfl ?_
    obtain ⟨k10, i11, hm⟩ := ckO_e hm
    obtain ⟨v12, ρ13, h14, hm⟩ := cll_e hm
    refine zx_callV (σ := σ) C [.int (x2)] tC_11 k10 i11 Y_X12_lacks W_8_79 W_8_81 Wp_89 (c_X12_lacks h14) (by decide) (by decide) rfl (Nat.le_of_ble_eq_true rfl) dX12_mayRename_86 rfl ?_
    refine zx_if_eq C 97 dX12_mayRename_89 (by decide) (fun c15 => ?_) (fun c15 => ?_)
    · replace hm := ip_e hm c15
      exact zx_lv [] [] rfl (j_X12_mayRename_97 C htab hin    hm)
    · replace hm := in_e hm c15
      refine zx_bipush (v := (-6)) C dX12_mayRename_92 (by decide) ?_
      refine zx_goto C 98 dX12_mayRename_94 (by decide) ?_
      exact zx_lv [] [] rfl (j_X12_mayRename_98 C htab hin    hm)
set_option maxRecDepth 100000 in
set_option maxHeartbeats 1000000 in
theorem j_X12_mayRename_55 {p : Program} {l : Launch} {e : Env} {s : State} {m : MethodId} {args : Array Value} {below : List Frame} {meth : Method} {c : Code} {D : va_G} {aC : Nat → ClassId} {b0 fu : Nat} {σ0 τ : tM} {v : Int32}  (C : tCx p l s m args meth c yX12_mayRename.cls cX12_mayRename 5 (some .int) D aC b0 σ0) (htab : ∀ x ∈ c.exceptionTable.toList, False) (hin : meth.name = yX12_mayRename.name)  {x0 : Nat} {x2 : Int32} {x3 : Int32} {x4 : Int32} {σ : tM} (hm : J_X12_mayRename_55 b0 fu  x0 x2 x3 x4 σ = some (v, τ)) : tX p l e s m args below meth c 5 8 179 D aC b0 σ0 (.inl (some (.int v))) τ 55 [(0, .ref (x0)), (2, .int (x2)), (3, .int (x3)), (4, .int (x4))] [] σ := by
  unfold J_X12_mayRename_55 at hm
  refine zx_iload C dX12_mayRename_55 3 rfl ?_
  refine zx_if_eq C 80 dX12_mayRename_57 (by decide) (fun c23 => ?_) (fun c23 => ?_)
  · replace hm := ip_e hm c23
    exact zx_lv [0, 1, 2] [(0, .ref (x0)), (2, .int (x2)), (3, .int (x3))] rfl (j_X12_mayRename_80 C htab hin    hm)
  · replace hm := in_e hm c23
    refine zx_aload_n C dX12_mayRename_60 0 rfl ?_
    refine zx_iload_n C dX12_mayRename_61 2 rfl ?_
    refine zx_iconst (v := 1) C dX12_mayRename_62 (by decide) ?_
    obtain ⟨k24, i25, hm⟩ := ckO_e hm
    obtain ⟨v26, ρ27, h28, hm⟩ := cll_e hm
    refine zx_callV (σ := σ) C [.int (x3), .int (1)] tC_11 k24 i25 Y_X12_node W_8_40 W_8_42 Wp_80 (c_X12_node h28) (by decide) (by decide) rfl (Nat.le_of_ble_eq_true rfl) dX12_mayRename_63 rfl ?_
    refine zx_if_le C 80 dX12_mayRename_66 (by decide) (fun c29 => ?_) (fun c29 => ?_)
    · replace hm := ip_e hm c29
      exact zx_lv [0, 1, 2] [(0, .ref (x0)), (2, .int (x2)), (3, .int (x3))] rfl (j_X12_mayRename_80 C htab hin    hm)
    · replace hm := in_e hm c29
      refine zx_bipush (v := (-5)) C dX12_mayRename_69 (by decide) ?_
      obtain ⟨rfl, rfl⟩ := ret_e hm
      exact zx_iret C rfl rfl rfl dX12_mayRename_71
set_option maxRecDepth 100000 in
set_option maxHeartbeats 1000000 in
theorem j_X12_mayRename_19 {p : Program} {l : Launch} {e : Env} {s : State} {m : MethodId} {args : Array Value} {below : List Frame} {meth : Method} {c : Code} {D : va_G} {aC : Nat → ClassId} {b0 fu : Nat} {σ0 τ : tM} {v : Int32}  (C : tCx p l s m args meth c yX12_mayRename.cls cX12_mayRename 5 (some .int) D aC b0 σ0) (htab : ∀ x ∈ c.exceptionTable.toList, False) (hin : meth.name = yX12_mayRename.name)  {x0 : Nat} {x1 : Int32} {x2 : Int32} {x3 : Int32} {s0 : Int32} {σ : tM} (hm : J_X12_mayRename_19 b0 fu  x0 x1 x2 x3 s0 σ = some (v, τ)) : tX p l e s m args below meth c 5 8 179 D aC b0 σ0 (.inl (some (.int v))) τ 19 [(0, .ref (x0)), (1, .int (x1)), (2, .int (x2)), (3, .int (x3))] [.int (s0)] σ := by
  unfold J_X12_mayRename_19 at hm
  refine zx_istore C [(4, .int (s0)), (0, .ref (x0)), (1, .int (x1)), (2, .int (x2)), (3, .int (x3))] dX12_mayRename_19 (by decide) rfl ?_
  refine zx_aload_n C dX12_mayRename_21 1 rfl ?_
  refine zx_iload_n C dX12_mayRename_22 2 rfl ?_
  refine zx_iconst (v := 0) C dX12_mayRename_23 (by decide) ?_
  obtain ⟨k2, i3, hm⟩ := ckO_e hm
  obtain ⟨v4, ρ5, h6, hm⟩ := cll_e hm
  refine zx_callV (σ := σ) C [.int (x1), .int (0)] tC_11 k2 i3 Y_X12_node W_8_40 W_8_42 Wp_80 (c_X12_node h6) (by decide) (by decide) rfl (Nat.le_of_ble_eq_true rfl) dX12_mayRename_24 rfl ?_
  refine zx_iconst (v := 2) C dX12_mayRename_27 (by decide) ?_
  refine zx_icmp_ne C 72 dX12_mayRename_28 (by decide) (fun c7 => ?_) (fun c7 => ?_)
  · replace hm := in_e hm c7
    refine zx_iload C dX12_mayRename_72 0 rfl ?_
    refine zx_if_eq C 80 dX12_mayRename_74 (by decide) (fun c8 => ?_) (fun c8 => ?_)
    · replace hm := ip_e hm c8
      exact zx_lv [1, 3, 4] [(0, .ref (x0)), (2, .int (x2)), (3, .int (x3))] rfl (j_X12_mayRename_80 C htab hin    hm)
    · replace hm := in_e hm c8
      refine zx_bipush (v := (-4)) C dX12_mayRename_77 (by decide) ?_
      obtain ⟨rfl, rfl⟩ := ret_e hm
      exact zx_iret C rfl rfl rfl dX12_mayRename_79
  · replace hm := ip_e hm c7
    refine zx_aload_n C dX12_mayRename_31 1 rfl ?_
    refine zx_iload_n C dX12_mayRename_32 3 rfl ?_
    refine zx_iload_n C dX12_mayRename_33 2 rfl ?_
    obtain ⟨k16, i17, hm⟩ := ckO_e hm
    obtain ⟨v18, ρ19, h20, hm⟩ := cll_e hm
    refine zx_callV (σ := ρ5) C [.int (x2), .int (x1)] tC_11 k16 i17 Y_X12_isBelow W_8_209 W_8_211 Wp_115 (c_X12_isBelow h20) (by decide) (by decide) rfl (Nat.le_of_ble_eq_true rfl) dX12_mayRename_34 rfl ?_
    refine zx_if_eq C 43 dX12_mayRename_37 (by decide) (fun c21 => ?_) (fun c21 => ?_)
    · replace hm := ip_e hm c21
      refine zx_iload_n C dX12_mayRename_43 4 rfl ?_
      refine zx_if_lt C 55 dX12_mayRename_44 (by decide) (fun c22 => ?_) (fun c22 => ?_)
      · replace hm := ip_e hm c22
        exact zx_lv [1, 3, 4, 0] [(0, .ref (x0)), (2, .int (x2)), (3, .int (x3)), (4, .int (s0))] rfl (j_X12_mayRename_55 C htab hin    hm)
      · replace hm := in_e hm c22
        refine zx_iload C dX12_mayRename_47 0 rfl ?_
        refine zx_if_ne C 55 dX12_mayRename_49 (by decide) (fun c30 => ?_) (fun c30 => ?_)
        · replace hm := in_e hm c30
          exact zx_lv [1, 3, 4, 0] [(0, .ref (x0)), (2, .int (x2)), (3, .int (x3)), (4, .int (s0))] rfl (j_X12_mayRename_55 C htab hin    hm)
        · replace hm := ip_e hm c30
          refine zx_bipush (v := (-3)) C dX12_mayRename_52 (by decide) ?_
          obtain ⟨rfl, rfl⟩ := ret_e hm
          exact zx_iret C rfl rfl rfl dX12_mayRename_54
    · replace hm := in_e hm c21
      refine zx_bipush (v := (-9)) C dX12_mayRename_40 (by decide) ?_
      obtain ⟨rfl, rfl⟩ := ret_e hm
      exact zx_iret C rfl rfl rfl dX12_mayRename_42
set_option maxRecDepth 100000 in
set_option maxHeartbeats 1000000 in
theorem j_X12_mayRename_18 {p : Program} {l : Launch} {e : Env} {s : State} {m : MethodId} {args : Array Value} {below : List Frame} {meth : Method} {c : Code} {D : va_G} {aC : Nat → ClassId} {b0 fu : Nat} {σ0 τ : tM} {v : Int32}  (C : tCx p l s m args meth c yX12_mayRename.cls cX12_mayRename 5 (some .int) D aC b0 σ0) (htab : ∀ x ∈ c.exceptionTable.toList, False) (hin : meth.name = yX12_mayRename.name)  {x0 : Nat} {x1 : Int32} {x2 : Int32} {x3 : Int32} {σ : tM} (hm : J_X12_mayRename_18 b0 fu  x0 x1 x2 x3 σ = some (v, τ)) : tX p l e s m args below meth c 5 8 179 D aC b0 σ0 (.inl (some (.int v))) τ 18 [(0, .ref (x0)), (1, .int (x1)), (2, .int (x2)), (3, .int (x3))] [] σ := by
  unfold J_X12_mayRename_18 at hm
  refine zx_iconst (v := 0) C dX12_mayRename_18 (by decide) ?_
  exact zx_lv [0, 1, 2, 3] [(0, .ref (x0)), (1, .int (x1)), (2, .int (x2)), (3, .int (x3))] rfl (j_X12_mayRename_19 C htab hin    hm)
set_option maxRecDepth 100000 in
set_option maxHeartbeats 1000000 in
theorem c_X12_mayRename {l : Launch} {D : va_G} {aC : Nat → ClassId} {b0 fu : Nat} {a0 : Nat} {p0 : Int32} {p1 : Int32} {p2 : Int32} {σ τ : tM} {v : Int32} (hm : m_X12_mayRename b0 fu a0 p0 p1 p2 σ = some (v, τ)) : tMt l D aC b0 yX12_mayRename (Cond.code yX12_mayRename cX12_mayRename 5 (some .int)) 8 179 [.ref (a0), .int (p0), .int (p1), .int (p2)] σ (.inl (some (.int v))) τ := by
  unfold m_X12_mayRename at hm
  obtain ⟨hg, hm⟩ := grw_e hm
  refine tMt_of (n := 0) rfl (Nat.le_of_ble_eq_true rfl) hg ?_
  intro p e s m below meth c C htab hin
  refine zx_lv [0, 1, 2, 3] [(0, .ref (a0)), (1, .int (p0)), (2, .int (p1)), (3, .int (p2))] rfl ?_
  refine zx_iload_n C dX12_mayRename_0 3 rfl ?_
  refine zx_if_lt C 18 dX12_mayRename_1 (by decide) (fun c1 => ?_) (fun c1 => ?_)
  · replace hm := ip_e hm c1
    exact zx_lv [0, 1, 2, 3] [(0, .ref (a0)), (1, .int (p0)), (2, .int (p1)), (3, .int (p2))] rfl (j_X12_mayRename_18 C htab hin    hm)
  · replace hm := in_e hm c1
    refine zx_aload_n C dX12_mayRename_4 0 rfl ?_
    refine zx_iload_n C dX12_mayRename_5 3 rfl ?_
    refine zx_iconst (v := 0) C dX12_mayRename_6 (by decide) ?_
    obtain ⟨k31, i32, hm⟩ := ckO_e hm
    obtain ⟨v33, ρ34, h35, hm⟩ := cll_e hm
    refine zx_callV (σ := σ) C [.int (p2), .int (0)] tC_11 k31 i32 Y_X12_node W_8_40 W_8_42 Wp_80 (c_X12_node h35) (by decide) (by decide) rfl (Nat.le_of_ble_eq_true rfl) dX12_mayRename_7 rfl ?_
    refine zx_iconst (v := 2) C dX12_mayRename_10 (by decide) ?_
    refine zx_icmp_ne C 18 dX12_mayRename_11 (by decide) (fun c36 => ?_) (fun c36 => ?_)
    · replace hm := in_e hm c36
      exact zx_lv [0, 1, 2, 3] [(0, .ref (a0)), (1, .int (p0)), (2, .int (p1)), (3, .int (p2))] rfl (j_X12_mayRename_18 C htab hin    hm)
    · replace hm := ip_e hm c36
      refine zx_iconst (v := 1) C dX12_mayRename_14 (by decide) ?_
      refine zx_goto C 19 dX12_mayRename_15 (by decide) ?_
      exact zx_lv [0, 1, 2, 3] [(0, .ref (a0)), (1, .int (p0)), (2, .int (p1)), (3, .int (p2))] rfl (j_X12_mayRename_19 C htab hin    hm)
abbrev cX12_isHandle : ByteArray := prog_13_method_84_code
def yX12_isHandle : MethodName := ⟨"SyncTreeModel", "isHandle", "(I)Z"⟩
theorem Y_X12_isHandle : tY yX12_isHandle cX12_isHandle 2 (some .boolean) 1 := ⟨W_8_224, W_1_14, ⟨by decide +kernel, by decide +kernel⟩, by decide +kernel⟩
theorem dX12_isHandle_0 : decode cX12_isHandle 0 = .ok (.iload_n 1, 1) := by decide +kernel
theorem dX12_isHandle_1 : decode cX12_isHandle 1 = .ok (.ifCond .lt 22, 3) := by decide +kernel
theorem dX12_isHandle_4 : decode cX12_isHandle 4 = .ok (.iload_n 1, 1) := by decide +kernel
theorem dX12_isHandle_5 : decode cX12_isHandle 5 = .ok (.bipush 16, 2) := by decide +kernel
theorem dX12_isHandle_7 : decode cX12_isHandle 7 = .ok (.if_icmp .ge 16, 3) := by decide +kernel
theorem dX12_isHandle_10 : decode cX12_isHandle 10 = .ok (.aload_n 0, 1) := by decide +kernel
theorem dX12_isHandle_11 : decode cX12_isHandle 11 = .ok (.getfield 286, 3) := by decide +kernel
theorem dX12_isHandle_14 : decode cX12_isHandle 14 = .ok (.iload_n 1, 1) := by decide +kernel
theorem dX12_isHandle_15 : decode cX12_isHandle 15 = .ok (.iaload, 1) := by decide +kernel
theorem dX12_isHandle_16 : decode cX12_isHandle 16 = .ok (.ifCond .lt 7, 3) := by decide +kernel
theorem dX12_isHandle_19 : decode cX12_isHandle 19 = .ok (.iconst 1, 1) := by decide +kernel
theorem dX12_isHandle_20 : decode cX12_isHandle 20 = .ok (.goto 4, 3) := by decide +kernel
theorem dX12_isHandle_23 : decode cX12_isHandle 23 = .ok (.iconst 0, 1) := by decide +kernel
theorem dX12_isHandle_24 : decode cX12_isHandle 24 = .ok (.ireturn, 1) := by decide +kernel
def J_X12_isHandle_24 (b0 fu : Nat)  (s0 : Int32) (σ : tM) : Option ((Int32) × tM) := ckZ (s0) (some (s0, σ))
def J_X12_isHandle_23 (b0 fu : Nat)   (σ : tM) : Option ((Int32) × tM) := J_X12_isHandle_24 b0 fu   (0) (σ)
def m_X12_isHandle (b0 fu : Nat) (a0 : Nat) (p0 : Int32) (σ : tM) : Option ((Int32) × tM) := grw σ (if (p0) < (0) then J_X12_isHandle_23 b0 fu    (σ) else if (16) ≤ (p0) then J_X12_isHandle_23 b0 fu    (σ) else ckO b0 (σ) (a0) 11 (osm (tA (σ) (a0) 58) (fun a6 => ckR b0 (σ) (a6) 0 (fun n10 => ckI (p0) (n10) (if (tI (σ) (a6) ((p0).toNatClampNeg)) < (0) then J_X12_isHandle_23 b0 fu    (σ) else J_X12_isHandle_24 b0 fu   (1) (σ))))))
set_option maxRecDepth 100000 in
set_option maxHeartbeats 1000000 in
theorem j_X12_isHandle_24 {p : Program} {l : Launch} {e : Env} {s : State} {m : MethodId} {args : Array Value} {below : List Frame} {meth : Method} {c : Code} {D : va_G} {aC : Nat → ClassId} {b0 fu : Nat} {σ0 τ : tM} {v : Int32}  (C : tCx p l s m args meth c yX12_isHandle.cls cX12_isHandle 2 (some .boolean) D aC b0 σ0) (htab : ∀ x ∈ c.exceptionTable.toList, False) (hin : meth.name = yX12_isHandle.name)  {s0 : Int32} {σ : tM} (hm : J_X12_isHandle_24 b0 fu  s0 σ = some (v, τ)) : tX p l e s m args below meth c 2 0 0 D aC b0 σ0 (.inl (some (.int v))) τ 24 [] [.int (s0)] σ := by
  unfold J_X12_isHandle_24 at hm
  obtain ⟨h2, hm⟩ := ckZ_e hm
  obtain ⟨rfl, rfl⟩ := ret_e hm
  exact zx_zret C rfl h2 rfl rfl dX12_isHandle_24
set_option maxRecDepth 100000 in
set_option maxHeartbeats 1000000 in
theorem j_X12_isHandle_23 {p : Program} {l : Launch} {e : Env} {s : State} {m : MethodId} {args : Array Value} {below : List Frame} {meth : Method} {c : Code} {D : va_G} {aC : Nat → ClassId} {b0 fu : Nat} {σ0 τ : tM} {v : Int32}  (C : tCx p l s m args meth c yX12_isHandle.cls cX12_isHandle 2 (some .boolean) D aC b0 σ0) (htab : ∀ x ∈ c.exceptionTable.toList, False) (hin : meth.name = yX12_isHandle.name)   {σ : tM} (hm : J_X12_isHandle_23 b0 fu   σ = some (v, τ)) : tX p l e s m args below meth c 2 0 0 D aC b0 σ0 (.inl (some (.int v))) τ 23 [] [] σ := by
  unfold J_X12_isHandle_23 at hm
  refine zx_iconst (v := 0) C dX12_isHandle_23 (by decide) ?_
  exact zx_lv [] [] rfl (j_X12_isHandle_24 C htab hin    hm)
set_option maxRecDepth 100000 in
set_option maxHeartbeats 1000000 in
theorem c_X12_isHandle {l : Launch} {D : va_G} {aC : Nat → ClassId} {b0 fu : Nat} {a0 : Nat} {p0 : Int32} {σ τ : tM} {v : Int32} (hm : m_X12_isHandle b0 fu a0 p0 σ = some (v, τ)) : tMt l D aC b0 yX12_isHandle (Cond.code yX12_isHandle cX12_isHandle 2 (some .boolean)) 0 0 [.ref (a0), .int (p0)] σ (.inl (some (.int v))) τ := by
  unfold m_X12_isHandle at hm
  obtain ⟨hg, hm⟩ := grw_e hm
  refine tMt_of (n := 0) rfl (Nat.le_of_ble_eq_true rfl) hg ?_
  intro p e s m below meth c C htab hin
  refine zx_lv [0, 1] [(0, .ref (a0)), (1, .int (p0))] rfl ?_
  refine zx_iload_n C dX12_isHandle_0 1 rfl ?_
  refine zx_if_lt C 23 dX12_isHandle_1 (by decide) (fun c1 => ?_) (fun c1 => ?_)
  · replace hm := ip_e hm c1
    exact zx_lv [] [] rfl (j_X12_isHandle_23 C htab hin    hm)
  · replace hm := in_e hm c1
    refine zx_iload_n C dX12_isHandle_4 1 rfl ?_
    refine zx_bipush (v := 16) C dX12_isHandle_5 (by decide) ?_
    refine zx_icmp_ge C 23 dX12_isHandle_7 (by decide) (fun c3 => ?_) (fun c3 => ?_)
    · replace hm := ip_e hm c3
      exact zx_lv [] [] rfl (j_X12_isHandle_23 C htab hin    hm)
    · replace hm := in_e hm c3
      refine zx_aload_n C dX12_isHandle_10 0 rfl ?_
      obtain ⟨k4, i5, hm⟩ := ckO_e hm
      obtain ⟨a6, h7, hm⟩ := osm_e hm
      refine zx_get (j := 58) C tC_11 k4 i5 ⟨by decide, Or.inl W_7_37⟩ dX12_isHandle_11 (.ref a6) (rf_s h7) ?_
      refine zx_iload_n C dX12_isHandle_14 1 rfl ?_
      obtain ⟨n10, k8, i9, hm⟩ := ckR_e hm
      obtain ⟨h11, hm⟩ := ckI_e hm
      refine zx_iald C k8 i9 h11 dX12_isHandle_15 ?_
      refine zx_if_lt C 23 dX12_isHandle_16 (by decide) (fun c12 => ?_) (fun c12 => ?_)
      · replace hm := ip_e hm c12
        exact zx_lv [] [] rfl (j_X12_isHandle_23 C htab hin    hm)
      · replace hm := in_e hm c12
        refine zx_iconst (v := 1) C dX12_isHandle_19 (by decide) ?_
        refine zx_goto C 24 dX12_isHandle_20 (by decide) ?_
        exact zx_lv [] [] rfl (j_X12_isHandle_24 C htab hin    hm)
abbrev cX12_byteOf : ByteArray := prog_13_method_91_code
def yX12_byteOf : MethodName := ⟨"SyncTreeModel", "byteOf", "(II)I"⟩
theorem Y_X12_byteOf : tY yX12_byteOf cX12_byteOf 4 (some .int) 2 := ⟨W_9_9, W_1_14, ⟨by decide +kernel, by decide +kernel⟩, by decide +kernel⟩
theorem dX12_byteOf_0 : decode cX12_byteOf 0 = .ok (.aload_n 0, 1) := by decide +kernel
theorem dX12_byteOf_1 : decode cX12_byteOf 1 = .ok (.iload_n 1, 1) := by decide +kernel
theorem dX12_byteOf_2 : decode cX12_byteOf 2 = .ok (.iload_n 2, 1) := by decide +kernel
theorem dX12_byteOf_3 : decode cX12_byteOf 3 = .ok (.sipush 256, 3) := by decide +kernel
theorem dX12_byteOf_6 : decode cX12_byteOf 6 = .ok (.idiv, 1) := by decide +kernel
theorem dX12_byteOf_7 : decode cX12_byteOf 7 = .ok (.invokevirtual 259, 3) := by decide +kernel
theorem dX12_byteOf_10 : decode cX12_byteOf 10 = .ok (.iconst 1, 1) := by decide +kernel
theorem dX12_byteOf_11 : decode cX12_byteOf 11 = .ok (.isub, 1) := by decide +kernel
theorem dX12_byteOf_12 : decode cX12_byteOf 12 = .ok (.istore_n 3, 1) := by decide +kernel
theorem dX12_byteOf_13 : decode cX12_byteOf 13 = .ok (.iload_n 3, 1) := by decide +kernel
theorem dX12_byteOf_14 : decode cX12_byteOf 14 = .ok (.ifCond .ge 7, 3) := by decide +kernel
theorem dX12_byteOf_17 : decode cX12_byteOf 17 = .ok (.iconst 0, 1) := by decide +kernel
theorem dX12_byteOf_18 : decode cX12_byteOf 18 = .ok (.goto 23, 3) := by decide +kernel
theorem dX12_byteOf_21 : decode cX12_byteOf 21 = .ok (.aload_n 0, 1) := by decide +kernel
theorem dX12_byteOf_22 : decode cX12_byteOf 22 = .ok (.getfield 102, 3) := by decide +kernel
theorem dX12_byteOf_25 : decode cX12_byteOf 25 = .ok (.sipush 256, 3) := by decide +kernel
theorem dX12_byteOf_28 : decode cX12_byteOf 28 = .ok (.iload_n 3, 1) := by decide +kernel
theorem dX12_byteOf_29 : decode cX12_byteOf 29 = .ok (.imul, 1) := by decide +kernel
theorem dX12_byteOf_30 : decode cX12_byteOf 30 = .ok (.iload_n 2, 1) := by decide +kernel
theorem dX12_byteOf_31 : decode cX12_byteOf 31 = .ok (.sipush 256, 3) := by decide +kernel
theorem dX12_byteOf_34 : decode cX12_byteOf 34 = .ok (.irem, 1) := by decide +kernel
theorem dX12_byteOf_35 : decode cX12_byteOf 35 = .ok (.iadd, 1) := by decide +kernel
theorem dX12_byteOf_36 : decode cX12_byteOf 36 = .ok (.baload, 1) := by decide +kernel
theorem dX12_byteOf_37 : decode cX12_byteOf 37 = .ok (.sipush 255, 3) := by decide +kernel
theorem dX12_byteOf_40 : decode cX12_byteOf 40 = .ok (.iand, 1) := by decide +kernel
theorem dX12_byteOf_41 : decode cX12_byteOf 41 = .ok (.ireturn, 1) := by decide +kernel
def J_X12_byteOf_41 (b0 fu : Nat)  (s0 : Int32) (σ : tM) : Option ((Int32) × tM) := some (s0, σ)
def m_X12_byteOf (b0 fu : Nat) (a0 : Nat) (p0 : Int32) (p1 : Int32) (σ : tM) : Option ((Int32) × tM) := grw σ (ckO b0 (σ) (a0) 11 (cll (m_X12_has b0 fu (a0) (p0) ((p1) / (256)) (σ)) (fun v3 ρ4 => ltb (((v3) - (1) : Int32)) (fun y6 => if (0) ≤ (y6) then ckO b0 (ρ4) (a0) 11 (osm (tA (ρ4) (a0) 22) (fun a10 => ckR b0 (ρ4) (a10) 1 (fun n14 => ckI (((256) * (y6)) + ((p1) - (p1) / (256) * (256))) (n14) (J_X12_byteOf_41 b0 fu   ((tI (ρ4) (a10) ((((256) * (y6)) + ((p1) - (p1) / (256) * (256))).toNatClampNeg)) &&& (255)) (ρ4))))) else J_X12_byteOf_41 b0 fu   (0) (ρ4)))))
set_option maxRecDepth 100000 in
set_option maxHeartbeats 1000000 in
theorem j_X12_byteOf_41 {p : Program} {l : Launch} {e : Env} {s : State} {m : MethodId} {args : Array Value} {below : List Frame} {meth : Method} {c : Code} {D : va_G} {aC : Nat → ClassId} {b0 fu : Nat} {σ0 τ : tM} {v : Int32}  (C : tCx p l s m args meth c yX12_byteOf.cls cX12_byteOf 4 (some .int) D aC b0 σ0) (htab : ∀ x ∈ c.exceptionTable.toList, False) (hin : meth.name = yX12_byteOf.name)  {s0 : Int32} {σ : tM} (hm : J_X12_byteOf_41 b0 fu  s0 σ = some (v, τ)) : tX p l e s m args below meth c 4 4 89 D aC b0 σ0 (.inl (some (.int v))) τ 41 [] [.int (s0)] σ := by
  unfold J_X12_byteOf_41 at hm
  obtain ⟨rfl, rfl⟩ := ret_e hm
  exact zx_iret C rfl rfl rfl dX12_byteOf_41
set_option maxRecDepth 100000 in
set_option maxHeartbeats 1000000 in
theorem c_X12_byteOf {l : Launch} {D : va_G} {aC : Nat → ClassId} {b0 fu : Nat} {a0 : Nat} {p0 : Int32} {p1 : Int32} {σ τ : tM} {v : Int32} (hm : m_X12_byteOf b0 fu a0 p0 p1 σ = some (v, τ)) : tMt l D aC b0 yX12_byteOf (Cond.code yX12_byteOf cX12_byteOf 4 (some .int)) 4 89 [.ref (a0), .int (p0), .int (p1)] σ (.inl (some (.int v))) τ := by
  unfold m_X12_byteOf at hm
  obtain ⟨hg, hm⟩ := grw_e hm
  refine tMt_of (n := 0) rfl (Nat.le_of_ble_eq_true rfl) hg ?_
  intro p e s m below meth c C htab hin
  refine zx_lv [0, 1, 2] [(0, .ref (a0)), (1, .int (p0)), (2, .int (p1))] rfl ?_
  refine zx_aload_n C dX12_byteOf_0 0 rfl ?_
  refine zx_iload_n C dX12_byteOf_1 1 rfl ?_
  refine zx_iload_n C dX12_byteOf_2 2 rfl ?_
  refine zx_sipush (v := 256) C dX12_byteOf_3 (by decide) ?_
  refine zx_idiv C dX12_byteOf_6 (by decide) ?_
  obtain ⟨k1, i2, hm⟩ := ckO_e hm
  obtain ⟨v3, ρ4, h5, hm⟩ := cll_e hm
  refine zx_callV (σ := σ) C [.int (p0), .int ((p1) / (256))] tC_11 k1 i2 Y_X12_has W_8_60 W_8_62 Wp_85 (c_X12_has h5) (by decide) (by decide) rfl (Nat.le_of_ble_eq_true rfl) dX12_byteOf_7 rfl ?_
  refine zx_iconst (v := 1) C dX12_byteOf_10 (by decide) ?_
  refine zx_isub C dX12_byteOf_11 ?_
  refine zx_topi (fun y6 hy6 => ?_)
  replace hm := ltb_e hm hy6
  refine zx_istore_n C [(3, .int (y6)), (0, .ref (a0)), (1, .int (p0)), (2, .int (p1))] dX12_byteOf_12 rfl (by decide) rfl ?_
  refine zx_iload_n C dX12_byteOf_13 0 rfl ?_
  refine zx_if_ge C 21 dX12_byteOf_14 (by decide) (fun c7 => ?_) (fun c7 => ?_)
  · replace hm := ip_e hm c7
    refine zx_aload_n C dX12_byteOf_21 1 rfl ?_
    obtain ⟨k8, i9, hm⟩ := ckO_e hm
    obtain ⟨a10, h11, hm⟩ := osm_e hm
    refine zx_get (j := 22) C tC_11 k8 i9 ⟨by decide, Or.inl W_7_1⟩ dX12_byteOf_22 (.ref a10) (rf_s h11) ?_
    refine zx_sipush (v := 256) C dX12_byteOf_25 (by decide) ?_
    refine zx_iload_n C dX12_byteOf_28 0 rfl ?_
    refine zx_imul C dX12_byteOf_29 ?_
    refine zx_iload_n C dX12_byteOf_30 3 rfl ?_
    refine zx_sipush (v := 256) C dX12_byteOf_31 (by decide) ?_
    refine zx_irem C dX12_byteOf_34 (by decide) ?_
    refine zx_iadd C dX12_byteOf_35 ?_
    obtain ⟨n14, k12, i13, hm⟩ := ckR_e hm
    obtain ⟨h15, hm⟩ := ckI_e hm
    refine zx_bald C k12 i13 h15 dX12_byteOf_36 ?_
    refine zx_sipush (v := 255) C dX12_byteOf_37 (by decide) ?_
    refine zx_iand C dX12_byteOf_40 ?_
    exact zx_lv [] [] rfl (j_X12_byteOf_41 C htab hin    hm)
  · replace hm := in_e hm c7
    refine zx_iconst (v := 0) C dX12_byteOf_17 (by decide) ?_
    refine zx_goto C 41 dX12_byteOf_18 (by decide) ?_
    exact zx_lv [] [] rfl (j_X12_byteOf_41 C htab hin    hm)
abbrev cX12_told : ByteArray := prog_13_method_94_code
def yX12_told : MethodName := ⟨"SyncTreeModel", "told", "(II)I"⟩
theorem Y_X12_told : tY yX12_told cX12_told 8 (some .int) 2 := ⟨W_9_23, W_1_14, ⟨by decide +kernel, by decide +kernel⟩, by decide +kernel⟩
theorem dX12_told_0 : decode cX12_told 0 = .ok (.aload_n 0, 1) := by decide +kernel
theorem dX12_told_1 : decode cX12_told 1 = .ok (.iload_n 1, 1) := by decide +kernel
theorem dX12_told_2 : decode cX12_told 2 = .ok (.iconst 0, 1) := by decide +kernel
theorem dX12_told_3 : decode cX12_told 3 = .ok (.invokevirtual 247, 3) := by decide +kernel
theorem dX12_told_6 : decode cX12_told 6 = .ok (.istore_n 3, 1) := by decide +kernel
theorem dX12_told_7 : decode cX12_told 7 = .ok (.aload_n 0, 1) := by decide +kernel
theorem dX12_told_8 : decode cX12_told 8 = .ok (.iload_n 1, 1) := by decide +kernel
theorem dX12_told_9 : decode cX12_told 9 = .ok (.iconst 1, 1) := by decide +kernel
theorem dX12_told_10 : decode cX12_told 10 = .ok (.invokevirtual 247, 3) := by decide +kernel
theorem dX12_told_13 : decode cX12_told 13 = .ok (.istore 4, 2) := by decide +kernel
theorem dX12_told_15 : decode cX12_told 15 = .ok (.iconst 0, 1) := by decide +kernel
theorem dX12_told_16 : decode cX12_told 16 = .ok (.istore 5, 2) := by decide +kernel
theorem dX12_told_18 : decode cX12_told 18 = .ok (.iload_n 2, 1) := by decide +kernel
theorem dX12_told_19 : decode cX12_told 19 = .ok (.tableswitch 197 0 5 #[37, 39, 56, 63, 65, 112], 37) := by decide +kernel
theorem dX12_told_56 : decode cX12_told 56 = .ok (.iload_n 3, 1) := by decide +kernel
theorem dX12_told_57 : decode cX12_told 57 = .ok (.ireturn, 1) := by decide +kernel
theorem dX12_told_58 : decode cX12_told 58 = .ok (.iload_n 3, 1) := by decide +kernel
theorem dX12_told_59 : decode cX12_told 59 = .ok (.iconst 3, 1) := by decide +kernel
theorem dX12_told_60 : decode cX12_told 60 = .ok (.if_icmp .ne 12, 3) := by decide +kernel
theorem dX12_told_63 : decode cX12_told 63 = .ok (.aload_n 0, 1) := by decide +kernel
theorem dX12_told_64 : decode cX12_told 64 = .ok (.iload_n 1, 1) := by decide +kernel
theorem dX12_told_65 : decode cX12_told 65 = .ok (.iconst 4, 1) := by decide +kernel
theorem dX12_told_66 : decode cX12_told 66 = .ok (.invokevirtual 247, 3) := by decide +kernel
theorem dX12_told_69 : decode cX12_told 69 = .ok (.goto 5, 3) := by decide +kernel
theorem dX12_told_72 : decode cX12_told 72 = .ok (.iload 4, 2) := by decide +kernel
theorem dX12_told_74 : decode cX12_told 74 = .ok (.ireturn, 1) := by decide +kernel
theorem dX12_told_75 : decode cX12_told 75 = .ok (.aload_n 0, 1) := by decide +kernel
theorem dX12_told_76 : decode cX12_told 76 = .ok (.iload_n 1, 1) := by decide +kernel
theorem dX12_told_77 : decode cX12_told 77 = .ok (.iconst 2, 1) := by decide +kernel
theorem dX12_told_78 : decode cX12_told 78 = .ok (.invokevirtual 247, 3) := by decide +kernel
theorem dX12_told_81 : decode cX12_told 81 = .ok (.ireturn, 1) := by decide +kernel
theorem dX12_told_82 : decode cX12_told 82 = .ok (.iload_n 1, 1) := by decide +kernel
theorem dX12_told_83 : decode cX12_told 83 = .ok (.ireturn, 1) := by decide +kernel
theorem dX12_told_84 : decode cX12_told 84 = .ok (.iconst 0, 1) := by decide +kernel
theorem dX12_told_85 : decode cX12_told 85 = .ok (.istore 6, 2) := by decide +kernel
theorem dX12_told_87 : decode cX12_told 87 = .ok (.iload 6, 2) := by decide +kernel
theorem dX12_told_89 : decode cX12_told 89 = .ok (.iload 4, 2) := by decide +kernel
theorem dX12_told_91 : decode cX12_told 91 = .ok (.sipush 255, 3) := by decide +kernel
theorem dX12_told_94 : decode cX12_told 94 = .ok (.iadd, 1) := by decide +kernel
theorem dX12_told_95 : decode cX12_told 95 = .ok (.sipush 256, 3) := by decide +kernel
theorem dX12_told_98 : decode cX12_told 98 = .ok (.idiv, 1) := by decide +kernel
theorem dX12_told_99 : decode cX12_told 99 = .ok (.if_icmp .ge 29, 3) := by decide +kernel
theorem dX12_told_102 : decode cX12_told 102 = .ok (.iload 5, 2) := by decide +kernel
theorem dX12_told_104 : decode cX12_told 104 = .ok (.aload_n 0, 1) := by decide +kernel
theorem dX12_told_105 : decode cX12_told 105 = .ok (.iload_n 1, 1) := by decide +kernel
theorem dX12_told_106 : decode cX12_told 106 = .ok (.iload 6, 2) := by decide +kernel
theorem dX12_told_108 : decode cX12_told 108 = .ok (.invokevirtual 259, 3) := by decide +kernel
theorem dX12_told_111 : decode cX12_told 111 = .ok (.ifCond .eq 7, 3) := by decide +kernel
theorem dX12_told_114 : decode cX12_told 114 = .ok (.iconst 1, 1) := by decide +kernel
theorem dX12_told_115 : decode cX12_told 115 = .ok (.goto 4, 3) := by decide +kernel
theorem dX12_told_118 : decode cX12_told 118 = .ok (.iconst 0, 1) := by decide +kernel
theorem dX12_told_119 : decode cX12_told 119 = .ok (.iadd, 1) := by decide +kernel
theorem dX12_told_120 : decode cX12_told 120 = .ok (.istore 5, 2) := by decide +kernel
theorem dX12_told_122 : decode cX12_told 122 = .ok (.iinc 6 1, 3) := by decide +kernel
theorem dX12_told_125 : decode cX12_told 125 = .ok (.goto (-38), 3) := by decide +kernel
theorem dX12_told_128 : decode cX12_told 128 = .ok (.iload 5, 2) := by decide +kernel
theorem dX12_told_130 : decode cX12_told 130 = .ok (.ireturn, 1) := by decide +kernel
theorem dX12_told_131 : decode cX12_told 131 = .ok (.aload_n 0, 1) := by decide +kernel
theorem dX12_told_132 : decode cX12_told 132 = .ok (.iload_n 1, 1) := by decide +kernel
theorem dX12_told_133 : decode cX12_told 133 = .ok (.bipush 93, 2) := by decide +kernel
theorem dX12_told_135 : decode cX12_told 135 = .ok (.invokevirtual 247, 3) := by decide +kernel
theorem dX12_told_138 : decode cX12_told 138 = .ok (.ifCond .eq 7, 3) := by decide +kernel
theorem dX12_told_141 : decode cX12_told 141 = .ok (.iconst 1, 1) := by decide +kernel
theorem dX12_told_142 : decode cX12_told 142 = .ok (.goto 4, 3) := by decide +kernel
theorem dX12_told_145 : decode cX12_told 145 = .ok (.iconst 0, 1) := by decide +kernel
theorem dX12_told_146 : decode cX12_told 146 = .ok (.istore 5, 2) := by decide +kernel
theorem dX12_told_148 : decode cX12_told 148 = .ok (.aload_n 0, 1) := by decide +kernel
theorem dX12_told_149 : decode cX12_told 149 = .ok (.iload_n 1, 1) := by decide +kernel
theorem dX12_told_150 : decode cX12_told 150 = .ok (.bipush 94, 2) := by decide +kernel
theorem dX12_told_152 : decode cX12_told 152 = .ok (.invokevirtual 247, 3) := by decide +kernel
theorem dX12_told_155 : decode cX12_told 155 = .ok (.iconst 1, 1) := by decide +kernel
theorem dX12_told_156 : decode cX12_told 156 = .ok (.isub, 1) := by decide +kernel
theorem dX12_told_157 : decode cX12_told 157 = .ok (.istore 6, 2) := by decide +kernel
theorem dX12_told_159 : decode cX12_told 159 = .ok (.iconst 0, 1) := by decide +kernel
theorem dX12_told_160 : decode cX12_told 160 = .ok (.istore 7, 2) := by decide +kernel
theorem dX12_told_162 : decode cX12_told 162 = .ok (.iload 7, 2) := by decide +kernel
theorem dX12_told_164 : decode cX12_told 164 = .ok (.bipush 32, 2) := by decide +kernel
theorem dX12_told_166 : decode cX12_told 166 = .ok (.if_icmp .ge 35, 3) := by decide +kernel
theorem dX12_told_169 : decode cX12_told 169 = .ok (.iload 6, 2) := by decide +kernel
theorem dX12_told_171 : decode cX12_told 171 = .ok (.ifCond .lt 30, 3) := by decide +kernel
theorem dX12_told_174 : decode cX12_told 174 = .ok (.iload 5, 2) := by decide +kernel
theorem dX12_told_176 : decode cX12_told 176 = .ok (.aload_n 0, 1) := by decide +kernel
theorem dX12_told_177 : decode cX12_told 177 = .ok (.iload 6, 2) := by decide +kernel
theorem dX12_told_179 : decode cX12_told 179 = .ok (.iload 7, 2) := by decide +kernel
theorem dX12_told_181 : decode cX12_told 181 = .ok (.invokevirtual 250, 3) := by decide +kernel
theorem dX12_told_184 : decode cX12_told 184 = .ok (.ifCond .eq 7, 3) := by decide +kernel
theorem dX12_told_187 : decode cX12_told 187 = .ok (.iconst 1, 1) := by decide +kernel
theorem dX12_told_188 : decode cX12_told 188 = .ok (.goto 4, 3) := by decide +kernel
theorem dX12_told_191 : decode cX12_told 191 = .ok (.iconst 0, 1) := by decide +kernel
theorem dX12_told_192 : decode cX12_told 192 = .ok (.iadd, 1) := by decide +kernel
theorem dX12_told_193 : decode cX12_told 193 = .ok (.istore 5, 2) := by decide +kernel
theorem dX12_told_195 : decode cX12_told 195 = .ok (.iinc 7 1, 3) := by decide +kernel
theorem dX12_told_198 : decode cX12_told 198 = .ok (.goto (-36), 3) := by decide +kernel
theorem dX12_told_201 : decode cX12_told 201 = .ok (.iload 6, 2) := by decide +kernel
theorem dX12_told_203 : decode cX12_told 203 = .ok (.ifCond .ge 8, 3) := by decide +kernel
theorem dX12_told_206 : decode cX12_told 206 = .ok (.iload 5, 2) := by decide +kernel
theorem dX12_told_208 : decode cX12_told 208 = .ok (.goto 7, 3) := by decide +kernel
theorem dX12_told_211 : decode cX12_told 211 = .ok (.iload 5, 2) := by decide +kernel
theorem dX12_told_213 : decode cX12_told 213 = .ok (.iconst 1, 1) := by decide +kernel
theorem dX12_told_214 : decode cX12_told 214 = .ok (.iadd, 1) := by decide +kernel
theorem dX12_told_215 : decode cX12_told 215 = .ok (.ireturn, 1) := by decide +kernel
theorem dX12_told_216 : decode cX12_told 216 = .ok (.iload_n 3, 1) := by decide +kernel
theorem dX12_told_217 : decode cX12_told 217 = .ok (.iconst 2, 1) := by decide +kernel
theorem dX12_told_218 : decode cX12_told 218 = .ok (.if_icmp .ne 44, 3) := by decide +kernel
theorem dX12_told_221 : decode cX12_told 221 = .ok (.iconst 0, 1) := by decide +kernel
theorem dX12_told_222 : decode cX12_told 222 = .ok (.istore 7, 2) := by decide +kernel
theorem dX12_told_224 : decode cX12_told 224 = .ok (.iload 7, 2) := by decide +kernel
theorem dX12_told_226 : decode cX12_told 226 = .ok (.aload_n 0, 1) := by decide +kernel
theorem dX12_told_227 : decode cX12_told 227 = .ok (.iload_n 1, 1) := by decide +kernel
theorem dX12_told_228 : decode cX12_told 228 = .ok (.invokevirtual 299, 3) := by decide +kernel
theorem dX12_told_231 : decode cX12_told 231 = .ok (.if_icmp .ge 31, 3) := by decide +kernel
theorem dX12_told_234 : decode cX12_told 234 = .ok (.iload 5, 2) := by decide +kernel
theorem dX12_told_236 : decode cX12_told 236 = .ok (.aload_n 0, 1) := by decide +kernel
theorem dX12_told_237 : decode cX12_told 237 = .ok (.iload_n 1, 1) := by decide +kernel
theorem dX12_told_238 : decode cX12_told 238 = .ok (.iload 7, 2) := by decide +kernel
theorem dX12_told_240 : decode cX12_told 240 = .ok (.invokevirtual 302, 3) := by decide +kernel
theorem dX12_told_243 : decode cX12_told 243 = .ok (.bipush 64, 2) := by decide +kernel
theorem dX12_told_245 : decode cX12_told 245 = .ok (.if_icmp .eq 7, 3) := by decide +kernel
theorem dX12_told_248 : decode cX12_told 248 = .ok (.iconst 1, 1) := by decide +kernel
theorem dX12_told_249 : decode cX12_told 249 = .ok (.goto 4, 3) := by decide +kernel
theorem dX12_told_252 : decode cX12_told 252 = .ok (.iconst 0, 1) := by decide +kernel
theorem dX12_told_253 : decode cX12_told 253 = .ok (.iadd, 1) := by decide +kernel
theorem dX12_told_254 : decode cX12_told 254 = .ok (.istore 5, 2) := by decide +kernel
theorem dX12_told_256 : decode cX12_told 256 = .ok (.iinc 7 1, 3) := by decide +kernel
theorem dX12_told_259 : decode cX12_told 259 = .ok (.goto (-35), 3) := by decide +kernel
theorem dX12_told_262 : decode cX12_told 262 = .ok (.iload 5, 2) := by decide +kernel
theorem dX12_told_264 : decode cX12_told 264 = .ok (.ireturn, 1) := by decide +kernel
def J_X12_told_74 (b0 fu : Nat)  (s0 : Int32) (σ : tM) : Option ((Int32) × tM) := some (s0, σ)
def J_X12_told_119 (b0 fu : Nat) (rc87 : Nat → Int32 → Int32 → Int32 → Int32 → tM → Option ((Int32) × tM)) (x0 : Nat) (x1 : Int32) (x4 : Int32) (x6 : Int32) (s0 : Int32) (s1 : Int32) (σ : tM) : Option ((Int32) × tM) := ltb (((s0) + (s1) : Int32)) (fun y29 => ltb ((x6) + Int32.ofInt 1) (fun y30 => rc87 (x0) (x1) (x4) (y29) (y30) (σ)))
def L_X12_told_87 (b0 fu : Nat)  : Nat → Nat → Int32 → Int32 → Int32 → Int32 → tM → Option ((Int32) × tM)
  | 0, _, _, _, _, _, _ => none
  | n + 1, x0, x1, x4, x5, x6, σ => ltb (L_X12_told_87 b0 fu  n) (fun rc87 => if (((x4) + (255)) / (256)) ≤ (x6) then some (x5, σ) else ckO b0 (σ) (x0) 11 (cll (m_X12_has b0 fu (x0) (x1) (x6) (σ)) (fun v25 ρ26 => if (v25) = (0) then J_X12_told_119 b0 fu rc87  (x0) (x1) (x4) (x6) (x5) (0) (ρ26) else J_X12_told_119 b0 fu rc87  (x0) (x1) (x4) (x6) (x5) (1) (ρ26))))
def J_X12_told_215 (b0 fu : Nat)  (s0 : Int32) (σ : tM) : Option ((Int32) × tM) := some (s0, σ)
def J_X12_told_201 (b0 fu : Nat)  (x5 : Int32) (x6 : Int32) (σ : tM) : Option ((Int32) × tM) := if (0) ≤ (x6) then J_X12_told_215 b0 fu   ((x5) + (1)) (σ) else J_X12_told_215 b0 fu   (x5) (σ)
def J_X12_told_192 (b0 fu : Nat) (rc162 : Nat → Int32 → Int32 → Int32 → tM → Option ((Int32) × tM)) (x0 : Nat) (x6 : Int32) (x7 : Int32) (s0 : Int32) (s1 : Int32) (σ : tM) : Option ((Int32) × tM) := ltb (((s0) + (s1) : Int32)) (fun y53 => ltb ((x7) + Int32.ofInt 1) (fun y54 => rc162 (x0) (y53) (x6) (y54) (σ)))
def L_X12_told_162 (b0 fu : Nat)  : Nat → Nat → Int32 → Int32 → Int32 → tM → Option ((Int32) × tM)
  | 0, _, _, _, _, _ => none
  | n + 1, x0, x5, x6, x7, σ => ltb (L_X12_told_162 b0 fu  n) (fun rc162 => if (32) ≤ (x7) then J_X12_told_201 b0 fu   (x5) (x6) (σ) else if (x6) < (0) then J_X12_told_201 b0 fu   (x5) (x6) (σ) else ckO b0 (σ) (x0) 11 (cll (m_X12_pointer b0 fu (x0) (x6) (x7) (σ)) (fun v49 ρ50 => if (v49) = (0) then J_X12_told_192 b0 fu rc162  (x0) (x6) (x7) (x5) (0) (ρ50) else J_X12_told_192 b0 fu rc162  (x0) (x6) (x7) (x5) (1) (ρ50))))
def J_X12_told_146 (b0 fu : Nat)  (x0 : Nat) (x1 : Int32) (s0 : Int32) (σ : tM) : Option ((Int32) × tM) := ckO b0 (σ) (x0) 11 (cll (m_X12_node b0 fu (x0) (x1) (94) (σ)) (fun v40 ρ41 => ltb (((v40) - (1) : Int32)) (fun y43 => L_X12_told_162 b0 fu  (fu) (x0) (s0) (y43) (0) (ρ41))))
def J_X12_told_262 (b0 fu : Nat)  (x5 : Int32) (σ : tM) : Option ((Int32) × tM) := some (x5, σ)
def J_X12_told_253 (b0 fu : Nat) (rc224 : Nat → Int32 → Int32 → Int32 → tM → Option ((Int32) × tM)) (x0 : Nat) (x1 : Int32) (x7 : Int32) (s0 : Int32) (s1 : Int32) (σ : tM) : Option ((Int32) × tM) := ltb (((s0) + (s1) : Int32)) (fun y68 => ltb ((x7) + Int32.ofInt 1) (fun y69 => rc224 (x0) (x1) (y68) (y69) (σ)))
def L_X12_told_224 (b0 fu : Nat)  : Nat → Nat → Int32 → Int32 → Int32 → tM → Option ((Int32) × tM)
  | 0, _, _, _, _, _ => none
  | n + 1, x0, x1, x5, x7, σ => ltb (L_X12_told_224 b0 fu  n) (fun rc224 => ckO b0 (σ) (x0) 11 (cll (m_X12_entries b0 fu (x0) (x1) (σ)) (fun v58 ρ59 => if (v58) ≤ (x7) then J_X12_told_262 b0 fu   (x5) (ρ59) else ckO b0 (ρ59) (x0) 11 (cll (m_X12_entryNode b0 fu (x0) (x1) (x7) (ρ59)) (fun v64 ρ65 => if (v64) = (64) then J_X12_told_253 b0 fu rc224  (x0) (x1) (x7) (x5) (0) (ρ65) else J_X12_told_253 b0 fu rc224  (x0) (x1) (x7) (x5) (1) (ρ65))))))
def m_X12_told (b0 fu : Nat) (a0 : Nat) (p0 : Int32) (p1 : Int32) (σ : tM) : Option ((Int32) × tM) := grw σ (ckO b0 (σ) (a0) 11 (cll (m_X12_node b0 fu (a0) (p0) (0) (σ)) (fun v3 ρ4 => ckO b0 (ρ4) (a0) 11 (cll (m_X12_node b0 fu (a0) (p0) (1) (ρ4)) (fun v8 ρ9 => if (p1) = (0) then some (v3, ρ9) else if (p1) = (1) then if (v3) = (3) then ckO b0 (ρ9) (a0) 11 (cll (m_X12_node b0 fu (a0) (p0) (4) (ρ9)) (fun v14 ρ15 => J_X12_told_74 b0 fu   (v14) (ρ15))) else J_X12_told_74 b0 fu   (v8) (ρ9) else if (p1) = (2) then ckO b0 (ρ9) (a0) 11 (cll (m_X12_node b0 fu (a0) (p0) (2) (ρ9)) (fun v19 ρ20 => some (v19, ρ20))) else if (p1) = (3) then some (p0, ρ9) else if (p1) = (4) then L_X12_told_87 b0 fu  (fu) (a0) (p0) (v8) (0) (0) (ρ9) else if (p1) = (5) then ckO b0 (ρ9) (a0) 11 (cll (m_X12_node b0 fu (a0) (p0) (93) (ρ9)) (fun v34 ρ35 => if (v34) = (0) then J_X12_told_146 b0 fu   (a0) (p0) (0) (ρ35) else J_X12_told_146 b0 fu   (a0) (p0) (1) (ρ35))) else if (v3) = (2) then L_X12_told_224 b0 fu  (fu) (a0) (p0) (0) (0) (ρ9) else J_X12_told_262 b0 fu   (0) (ρ9))))))
set_option maxRecDepth 100000 in
set_option maxHeartbeats 1000000 in
theorem j_X12_told_74 {p : Program} {l : Launch} {e : Env} {s : State} {m : MethodId} {args : Array Value} {below : List Frame} {meth : Method} {c : Code} {D : va_G} {aC : Nat → ClassId} {b0 fu : Nat} {σ0 τ : tM} {v : Int32}  (C : tCx p l s m args meth c yX12_told.cls cX12_told 8 (some .int) D aC b0 σ0) (htab : ∀ x ∈ c.exceptionTable.toList, False) (hin : meth.name = yX12_told.name)  {s0 : Int32} {σ : tM} (hm : J_X12_told_74 b0 fu  s0 σ = some (v, τ)) : tX p l e s m args below meth c 8 6 134 D aC b0 σ0 (.inl (some (.int v))) τ 74 [] [.int (s0)] σ := by
  unfold J_X12_told_74 at hm
  obtain ⟨rfl, rfl⟩ := ret_e hm
  exact zx_iret C rfl rfl rfl dX12_told_74
set_option maxRecDepth 100000 in
set_option maxHeartbeats 1000000 in
theorem j_X12_told_119 {p : Program} {l : Launch} {e : Env} {s : State} {m : MethodId} {args : Array Value} {below : List Frame} {meth : Method} {c : Code} {D : va_G} {aC : Nat → ClassId} {b0 fu : Nat} {σ0 τ : tM} {v : Int32} {rc87 : Nat → Int32 → Int32 → Int32 → Int32 → tM → Option ((Int32) × tM)} (C : tCx p l s m args meth c yX12_told.cls cX12_told 8 (some .int) D aC b0 σ0) (htab : ∀ x ∈ c.exceptionTable.toList, False) (hin : meth.name = yX12_told.name) (hrc87 : ∀ (x0 : Nat) (x1 : Int32) (x4 : Int32) (x5 : Int32) (x6 : Int32) (ρ : tM), rc87 x0 x1 x4 x5 x6 ρ = some (v, τ) → tX p l e s m args below meth c 8 6 134 D aC b0 σ0 (.inl (some (.int v))) τ 87 [(0, .ref (x0)), (1, .int (x1)), (4, .int (x4)), (5, .int (x5)), (6, .int (x6))] [] ρ) {x0 : Nat} {x1 : Int32} {x4 : Int32} {x6 : Int32} {s0 : Int32} {s1 : Int32} {σ : tM} (hm : J_X12_told_119 b0 fu rc87 x0 x1 x4 x6 s0 s1 σ = some (v, τ)) : tX p l e s m args below meth c 8 6 134 D aC b0 σ0 (.inl (some (.int v))) τ 119 [(0, .ref (x0)), (1, .int (x1)), (4, .int (x4)), (6, .int (x6))] [.int (s1), .int (s0)] σ := by
  unfold J_X12_told_119 at hm
  refine zx_iadd C dX12_told_119 ?_
  refine zx_topi (fun y29 hy29 => ?_)
  replace hm := ltb_e hm hy29
  refine zx_istore C [(5, .int (y29)), (0, .ref (x0)), (1, .int (x1)), (4, .int (x4)), (6, .int (x6))] dX12_told_120 (by decide) rfl ?_
  obtain ⟨y30, hy30⟩ : ∃ z : Int32, z = (x6) + Int32.ofInt 1 := ⟨_, rfl⟩
  replace hm := ltb_e hm hy30
  refine zx_iinc C [(6, .int (y30)), (5, .int (y29)), (0, .ref (x0)), (1, .int (x1)), (4, .int (x4))] dX12_told_122 4 rfl hy30.symm (by decide) rfl ?_
  refine zx_goto C 87 dX12_told_125 (by decide) ?_
  exact zx_lv [2, 3, 4, 1, 0] [(0, .ref (x0)), (1, .int (x1)), (4, .int (x4)), (5, .int (y29)), (6, .int (y30))] rfl (hrc87 _ _ _ _ _ _ hm)
set_option maxRecDepth 100000 in
set_option maxHeartbeats 1000000 in
theorem l_X12_told_87 {p : Program} {l : Launch} {e : Env} {s : State} {m : MethodId} {args : Array Value} {below : List Frame} {meth : Method} {c : Code} {D : va_G} {aC : Nat → ClassId} {b0 fu : Nat} {σ0 τ : tM} {v : Int32}  (C : tCx p l s m args meth c yX12_told.cls cX12_told 8 (some .int) D aC b0 σ0) (htab : ∀ x ∈ c.exceptionTable.toList, False) (hin : meth.name = yX12_told.name)  : ∀ (n : Nat) (x0 : Nat) (x1 : Int32) (x4 : Int32) (x5 : Int32) (x6 : Int32) (σ : tM), L_X12_told_87 b0 fu  n x0 x1 x4 x5 x6 σ = some (v, τ) → tX p l e s m args below meth c 8 6 134 D aC b0 σ0 (.inl (some (.int v))) τ 87 [(0, .ref (x0)), (1, .int (x1)), (4, .int (x4)), (5, .int (x5)), (6, .int (x6))] [] σ := by
  intro n
  induction n with
  | zero => intro x0 x1 x4 x5 x6 σ hm; unfold L_X12_told_87 at hm; cases hm
  | succ n ih =>
    intro x0 x1 x4 x5 x6 σ hm
    unfold L_X12_told_87 at hm
    obtain ⟨rc87, hrc⟩ : ∃ z, z = L_X12_told_87 b0 fu  n := ⟨_, rfl⟩
    replace hm := ltb_e hm hrc
    rw [← hrc] at ih
    have hrc87 := ih
    clear ih hrc
    refine zx_iload C dX12_told_87 4 rfl ?_
    refine zx_iload C dX12_told_89 2 rfl ?_
    refine zx_sipush (v := 255) C dX12_told_91 (by decide) ?_
    refine zx_iadd C dX12_told_94 ?_
    refine zx_sipush (v := 256) C dX12_told_95 (by decide) ?_
    refine zx_idiv C dX12_told_98 (by decide) ?_
    refine zx_icmp_ge C 128 dX12_told_99 (by decide) (fun c22 => ?_) (fun c22 => ?_)
    · replace hm := ip_e hm c22
      refine zx_iload C dX12_told_128 3 rfl ?_
      obtain ⟨rfl, rfl⟩ := ret_e hm
      exact zx_iret C rfl rfl rfl dX12_told_130
    · replace hm := in_e hm c22
      refine zx_iload C dX12_told_102 3 rfl ?_
      refine zx_aload_n C dX12_told_104 0 rfl ?_
      refine zx_iload_n C dX12_told_105 1 rfl ?_
      refine zx_iload C dX12_told_106 4 rfl ?_
      obtain ⟨k23, i24, hm⟩ := ckO_e hm
      obtain ⟨v25, ρ26, h27, hm⟩ := cll_e hm
      refine zx_callV (σ := σ) C [.int (x1), .int (x6)] tC_11 k23 i24 Y_X12_has W_8_60 W_8_62 Wp_85 (c_X12_has h27) (by decide) (by decide) rfl (Nat.le_of_ble_eq_true rfl) dX12_told_108 rfl ?_
      refine zx_if_eq C 118 dX12_told_111 (by decide) (fun c28 => ?_) (fun c28 => ?_)
      · replace hm := ip_e hm c28
        refine zx_iconst (v := 0) C dX12_told_118 (by decide) ?_
        exact zx_lv [0, 1, 2, 4] [(0, .ref (x0)), (1, .int (x1)), (4, .int (x4)), (6, .int (x6))] rfl (j_X12_told_119 C htab hin hrc87   hm)
      · replace hm := in_e hm c28
        refine zx_iconst (v := 1) C dX12_told_114 (by decide) ?_
        refine zx_goto C 119 dX12_told_115 (by decide) ?_
        exact zx_lv [0, 1, 2, 4] [(0, .ref (x0)), (1, .int (x1)), (4, .int (x4)), (6, .int (x6))] rfl (j_X12_told_119 C htab hin hrc87   hm)
set_option maxRecDepth 100000 in
set_option maxHeartbeats 1000000 in
theorem j_X12_told_215 {p : Program} {l : Launch} {e : Env} {s : State} {m : MethodId} {args : Array Value} {below : List Frame} {meth : Method} {c : Code} {D : va_G} {aC : Nat → ClassId} {b0 fu : Nat} {σ0 τ : tM} {v : Int32}  (C : tCx p l s m args meth c yX12_told.cls cX12_told 8 (some .int) D aC b0 σ0) (htab : ∀ x ∈ c.exceptionTable.toList, False) (hin : meth.name = yX12_told.name)  {s0 : Int32} {σ : tM} (hm : J_X12_told_215 b0 fu  s0 σ = some (v, τ)) : tX p l e s m args below meth c 8 6 134 D aC b0 σ0 (.inl (some (.int v))) τ 215 [] [.int (s0)] σ := by
  unfold J_X12_told_215 at hm
  obtain ⟨rfl, rfl⟩ := ret_e hm
  exact zx_iret C rfl rfl rfl dX12_told_215
set_option maxRecDepth 100000 in
set_option maxHeartbeats 1000000 in
theorem j_X12_told_201 {p : Program} {l : Launch} {e : Env} {s : State} {m : MethodId} {args : Array Value} {below : List Frame} {meth : Method} {c : Code} {D : va_G} {aC : Nat → ClassId} {b0 fu : Nat} {σ0 τ : tM} {v : Int32}  (C : tCx p l s m args meth c yX12_told.cls cX12_told 8 (some .int) D aC b0 σ0) (htab : ∀ x ∈ c.exceptionTable.toList, False) (hin : meth.name = yX12_told.name)  {x5 : Int32} {x6 : Int32} {σ : tM} (hm : J_X12_told_201 b0 fu  x5 x6 σ = some (v, τ)) : tX p l e s m args below meth c 8 6 134 D aC b0 σ0 (.inl (some (.int v))) τ 201 [(5, .int (x5)), (6, .int (x6))] [] σ := by
  unfold J_X12_told_201 at hm
  refine zx_iload C dX12_told_201 1 rfl ?_
  refine zx_if_ge C 211 dX12_told_203 (by decide) (fun c45 => ?_) (fun c45 => ?_)
  · replace hm := ip_e hm c45
    refine zx_iload C dX12_told_211 0 rfl ?_
    refine zx_iconst (v := 1) C dX12_told_213 (by decide) ?_
    refine zx_iadd C dX12_told_214 ?_
    exact zx_lv [] [] rfl (j_X12_told_215 C htab hin    hm)
  · replace hm := in_e hm c45
    refine zx_iload C dX12_told_206 0 rfl ?_
    refine zx_goto C 215 dX12_told_208 (by decide) ?_
    exact zx_lv [] [] rfl (j_X12_told_215 C htab hin    hm)
set_option maxRecDepth 100000 in
set_option maxHeartbeats 1000000 in
theorem j_X12_told_192 {p : Program} {l : Launch} {e : Env} {s : State} {m : MethodId} {args : Array Value} {below : List Frame} {meth : Method} {c : Code} {D : va_G} {aC : Nat → ClassId} {b0 fu : Nat} {σ0 τ : tM} {v : Int32} {rc162 : Nat → Int32 → Int32 → Int32 → tM → Option ((Int32) × tM)} (C : tCx p l s m args meth c yX12_told.cls cX12_told 8 (some .int) D aC b0 σ0) (htab : ∀ x ∈ c.exceptionTable.toList, False) (hin : meth.name = yX12_told.name) (hrc162 : ∀ (x0 : Nat) (x5 : Int32) (x6 : Int32) (x7 : Int32) (ρ : tM), rc162 x0 x5 x6 x7 ρ = some (v, τ) → tX p l e s m args below meth c 8 6 134 D aC b0 σ0 (.inl (some (.int v))) τ 162 [(0, .ref (x0)), (5, .int (x5)), (6, .int (x6)), (7, .int (x7))] [] ρ) {x0 : Nat} {x6 : Int32} {x7 : Int32} {s0 : Int32} {s1 : Int32} {σ : tM} (hm : J_X12_told_192 b0 fu rc162 x0 x6 x7 s0 s1 σ = some (v, τ)) : tX p l e s m args below meth c 8 6 134 D aC b0 σ0 (.inl (some (.int v))) τ 192 [(0, .ref (x0)), (6, .int (x6)), (7, .int (x7))] [.int (s1), .int (s0)] σ := by
  unfold J_X12_told_192 at hm
  refine zx_iadd C dX12_told_192 ?_
  refine zx_topi (fun y53 hy53 => ?_)
  replace hm := ltb_e hm hy53
  refine zx_istore C [(5, .int (y53)), (0, .ref (x0)), (6, .int (x6)), (7, .int (x7))] dX12_told_193 (by decide) rfl ?_
  obtain ⟨y54, hy54⟩ : ∃ z : Int32, z = (x7) + Int32.ofInt 1 := ⟨_, rfl⟩
  replace hm := ltb_e hm hy54
  refine zx_iinc C [(7, .int (y54)), (5, .int (y53)), (0, .ref (x0)), (6, .int (x6))] dX12_told_195 3 rfl hy54.symm (by decide) rfl ?_
  refine zx_goto C 162 dX12_told_198 (by decide) ?_
  exact zx_lv [2, 1, 3, 0] [(0, .ref (x0)), (5, .int (y53)), (6, .int (x6)), (7, .int (y54))] rfl (hrc162 _ _ _ _ _ hm)
set_option maxRecDepth 100000 in
set_option maxHeartbeats 1000000 in
theorem l_X12_told_162 {p : Program} {l : Launch} {e : Env} {s : State} {m : MethodId} {args : Array Value} {below : List Frame} {meth : Method} {c : Code} {D : va_G} {aC : Nat → ClassId} {b0 fu : Nat} {σ0 τ : tM} {v : Int32}  (C : tCx p l s m args meth c yX12_told.cls cX12_told 8 (some .int) D aC b0 σ0) (htab : ∀ x ∈ c.exceptionTable.toList, False) (hin : meth.name = yX12_told.name)  : ∀ (n : Nat) (x0 : Nat) (x5 : Int32) (x6 : Int32) (x7 : Int32) (σ : tM), L_X12_told_162 b0 fu  n x0 x5 x6 x7 σ = some (v, τ) → tX p l e s m args below meth c 8 6 134 D aC b0 σ0 (.inl (some (.int v))) τ 162 [(0, .ref (x0)), (5, .int (x5)), (6, .int (x6)), (7, .int (x7))] [] σ := by
  intro n
  induction n with
  | zero => intro x0 x5 x6 x7 σ hm; unfold L_X12_told_162 at hm; cases hm
  | succ n ih =>
    intro x0 x5 x6 x7 σ hm
    unfold L_X12_told_162 at hm
    obtain ⟨rc162, hrc⟩ : ∃ z, z = L_X12_told_162 b0 fu  n := ⟨_, rfl⟩
    replace hm := ltb_e hm hrc
    rw [← hrc] at ih
    have hrc162 := ih
    clear ih hrc
    refine zx_iload C dX12_told_162 3 rfl ?_
    refine zx_bipush (v := 32) C dX12_told_164 (by decide) ?_
    refine zx_icmp_ge C 201 dX12_told_166 (by decide) (fun c44 => ?_) (fun c44 => ?_)
    · replace hm := ip_e hm c44
      exact zx_lv [1, 2] [(5, .int (x5)), (6, .int (x6))] rfl (j_X12_told_201 C htab hin    hm)
    · replace hm := in_e hm c44
      refine zx_iload C dX12_told_169 2 rfl ?_
      refine zx_if_lt C 201 dX12_told_171 (by decide) (fun c46 => ?_) (fun c46 => ?_)
      · replace hm := ip_e hm c46
        exact zx_lv [1, 2] [(5, .int (x5)), (6, .int (x6))] rfl (j_X12_told_201 C htab hin    hm)
      · replace hm := in_e hm c46
        refine zx_iload C dX12_told_174 1 rfl ?_
        refine zx_aload_n C dX12_told_176 0 rfl ?_
        refine zx_iload C dX12_told_177 2 rfl ?_
        refine zx_iload C dX12_told_179 3 rfl ?_
        obtain ⟨k47, i48, hm⟩ := ckO_e hm
        obtain ⟨v49, ρ50, h51, hm⟩ := cll_e hm
        refine zx_callV (σ := σ) C [.int (x6), .int (x7)] tC_11 k47 i48 Y_X12_pointer W_8_68 W_8_70 Wp_87 (c_X12_pointer h51) (by decide) (by decide) rfl (Nat.le_of_ble_eq_true rfl) dX12_told_181 rfl ?_
        refine zx_if_eq C 191 dX12_told_184 (by decide) (fun c52 => ?_) (fun c52 => ?_)
        · replace hm := ip_e hm c52
          refine zx_iconst (v := 0) C dX12_told_191 (by decide) ?_
          exact zx_lv [0, 2, 3] [(0, .ref (x0)), (6, .int (x6)), (7, .int (x7))] rfl (j_X12_told_192 C htab hin hrc162   hm)
        · replace hm := in_e hm c52
          refine zx_iconst (v := 1) C dX12_told_187 (by decide) ?_
          refine zx_goto C 192 dX12_told_188 (by decide) ?_
          exact zx_lv [0, 2, 3] [(0, .ref (x0)), (6, .int (x6)), (7, .int (x7))] rfl (j_X12_told_192 C htab hin hrc162   hm)
set_option maxRecDepth 100000 in
set_option maxHeartbeats 1000000 in
theorem j_X12_told_146 {p : Program} {l : Launch} {e : Env} {s : State} {m : MethodId} {args : Array Value} {below : List Frame} {meth : Method} {c : Code} {D : va_G} {aC : Nat → ClassId} {b0 fu : Nat} {σ0 τ : tM} {v : Int32}  (C : tCx p l s m args meth c yX12_told.cls cX12_told 8 (some .int) D aC b0 σ0) (htab : ∀ x ∈ c.exceptionTable.toList, False) (hin : meth.name = yX12_told.name)  {x0 : Nat} {x1 : Int32} {s0 : Int32} {σ : tM} (hm : J_X12_told_146 b0 fu  x0 x1 s0 σ = some (v, τ)) : tX p l e s m args below meth c 8 6 134 D aC b0 σ0 (.inl (some (.int v))) τ 146 [(0, .ref (x0)), (1, .int (x1))] [.int (s0)] σ := by
  unfold J_X12_told_146 at hm
  refine zx_istore C [(5, .int (s0)), (0, .ref (x0)), (1, .int (x1))] dX12_told_146 (by decide) rfl ?_
  refine zx_aload_n C dX12_told_148 1 rfl ?_
  refine zx_iload_n C dX12_told_149 2 rfl ?_
  refine zx_bipush (v := 94) C dX12_told_150 (by decide) ?_
  obtain ⟨k38, i39, hm⟩ := ckO_e hm
  obtain ⟨v40, ρ41, h42, hm⟩ := cll_e hm
  refine zx_callV (σ := σ) C [.int (x1), .int (94)] tC_11 k38 i39 Y_X12_node W_8_40 W_8_42 Wp_80 (c_X12_node h42) (by decide) (by decide) rfl (Nat.le_of_ble_eq_true rfl) dX12_told_152 rfl ?_
  refine zx_iconst (v := 1) C dX12_told_155 (by decide) ?_
  refine zx_isub C dX12_told_156 ?_
  refine zx_topi (fun y43 hy43 => ?_)
  replace hm := ltb_e hm hy43
  refine zx_istore C [(6, .int (y43)), (5, .int (s0)), (0, .ref (x0)), (1, .int (x1))] dX12_told_157 (by decide) rfl ?_
  refine zx_iconst (v := 0) C dX12_told_159 (by decide) ?_
  refine zx_istore C [(7, .int (0)), (6, .int (y43)), (5, .int (s0)), (0, .ref (x0)), (1, .int (x1))] dX12_told_160 (by decide) rfl ?_
  exact zx_lv [3, 2, 1, 0] [(0, .ref (x0)), (5, .int (s0)), (6, .int (y43)), (7, .int (0))] rfl (l_X12_told_162 C htab hin  _ _ _ _ _ _ hm)
set_option maxRecDepth 100000 in
set_option maxHeartbeats 1000000 in
theorem j_X12_told_262 {p : Program} {l : Launch} {e : Env} {s : State} {m : MethodId} {args : Array Value} {below : List Frame} {meth : Method} {c : Code} {D : va_G} {aC : Nat → ClassId} {b0 fu : Nat} {σ0 τ : tM} {v : Int32}  (C : tCx p l s m args meth c yX12_told.cls cX12_told 8 (some .int) D aC b0 σ0) (htab : ∀ x ∈ c.exceptionTable.toList, False) (hin : meth.name = yX12_told.name)  {x5 : Int32} {σ : tM} (hm : J_X12_told_262 b0 fu  x5 σ = some (v, τ)) : tX p l e s m args below meth c 8 6 134 D aC b0 σ0 (.inl (some (.int v))) τ 262 [(5, .int (x5))] [] σ := by
  unfold J_X12_told_262 at hm
  refine zx_iload C dX12_told_262 0 rfl ?_
  obtain ⟨rfl, rfl⟩ := ret_e hm
  exact zx_iret C rfl rfl rfl dX12_told_264
set_option maxRecDepth 100000 in
set_option maxHeartbeats 1000000 in
theorem j_X12_told_253 {p : Program} {l : Launch} {e : Env} {s : State} {m : MethodId} {args : Array Value} {below : List Frame} {meth : Method} {c : Code} {D : va_G} {aC : Nat → ClassId} {b0 fu : Nat} {σ0 τ : tM} {v : Int32} {rc224 : Nat → Int32 → Int32 → Int32 → tM → Option ((Int32) × tM)} (C : tCx p l s m args meth c yX12_told.cls cX12_told 8 (some .int) D aC b0 σ0) (htab : ∀ x ∈ c.exceptionTable.toList, False) (hin : meth.name = yX12_told.name) (hrc224 : ∀ (x0 : Nat) (x1 : Int32) (x5 : Int32) (x7 : Int32) (ρ : tM), rc224 x0 x1 x5 x7 ρ = some (v, τ) → tX p l e s m args below meth c 8 6 134 D aC b0 σ0 (.inl (some (.int v))) τ 224 [(0, .ref (x0)), (1, .int (x1)), (5, .int (x5)), (7, .int (x7))] [] ρ) {x0 : Nat} {x1 : Int32} {x7 : Int32} {s0 : Int32} {s1 : Int32} {σ : tM} (hm : J_X12_told_253 b0 fu rc224 x0 x1 x7 s0 s1 σ = some (v, τ)) : tX p l e s m args below meth c 8 6 134 D aC b0 σ0 (.inl (some (.int v))) τ 253 [(0, .ref (x0)), (1, .int (x1)), (7, .int (x7))] [.int (s1), .int (s0)] σ := by
  unfold J_X12_told_253 at hm
  refine zx_iadd C dX12_told_253 ?_
  refine zx_topi (fun y68 hy68 => ?_)
  replace hm := ltb_e hm hy68
  refine zx_istore C [(5, .int (y68)), (0, .ref (x0)), (1, .int (x1)), (7, .int (x7))] dX12_told_254 (by decide) rfl ?_
  obtain ⟨y69, hy69⟩ : ∃ z : Int32, z = (x7) + Int32.ofInt 1 := ⟨_, rfl⟩
  replace hm := ltb_e hm hy69
  refine zx_iinc C [(7, .int (y69)), (5, .int (y68)), (0, .ref (x0)), (1, .int (x1))] dX12_told_256 3 rfl hy69.symm (by decide) rfl ?_
  refine zx_goto C 224 dX12_told_259 (by decide) ?_
  exact zx_lv [2, 3, 1, 0] [(0, .ref (x0)), (1, .int (x1)), (5, .int (y68)), (7, .int (y69))] rfl (hrc224 _ _ _ _ _ hm)
set_option maxRecDepth 100000 in
set_option maxHeartbeats 1000000 in
theorem l_X12_told_224 {p : Program} {l : Launch} {e : Env} {s : State} {m : MethodId} {args : Array Value} {below : List Frame} {meth : Method} {c : Code} {D : va_G} {aC : Nat → ClassId} {b0 fu : Nat} {σ0 τ : tM} {v : Int32}  (C : tCx p l s m args meth c yX12_told.cls cX12_told 8 (some .int) D aC b0 σ0) (htab : ∀ x ∈ c.exceptionTable.toList, False) (hin : meth.name = yX12_told.name)  : ∀ (n : Nat) (x0 : Nat) (x1 : Int32) (x5 : Int32) (x7 : Int32) (σ : tM), L_X12_told_224 b0 fu  n x0 x1 x5 x7 σ = some (v, τ) → tX p l e s m args below meth c 8 6 134 D aC b0 σ0 (.inl (some (.int v))) τ 224 [(0, .ref (x0)), (1, .int (x1)), (5, .int (x5)), (7, .int (x7))] [] σ := by
  intro n
  induction n with
  | zero => intro x0 x1 x5 x7 σ hm; unfold L_X12_told_224 at hm; cases hm
  | succ n ih =>
    intro x0 x1 x5 x7 σ hm
    unfold L_X12_told_224 at hm
    obtain ⟨rc224, hrc⟩ : ∃ z, z = L_X12_told_224 b0 fu  n := ⟨_, rfl⟩
    replace hm := ltb_e hm hrc
    rw [← hrc] at ih
    have hrc224 := ih
    clear ih hrc
    refine zx_iload C dX12_told_224 3 rfl ?_
    refine zx_aload_n C dX12_told_226 0 rfl ?_
    refine zx_iload_n C dX12_told_227 1 rfl ?_
    obtain ⟨k56, i57, hm⟩ := ckO_e hm
    obtain ⟨v58, ρ59, h60, hm⟩ := cll_e hm
    refine zx_callV (σ := σ) C [.int (x1)] tC_11 k56 i57 Y_X12_entries W_8_48 W_8_50 Wp_82 (c_X12_entries h60) (by decide) (by decide) rfl (Nat.le_of_ble_eq_true rfl) dX12_told_228 rfl ?_
    refine zx_icmp_ge C 262 dX12_told_231 (by decide) (fun c61 => ?_) (fun c61 => ?_)
    · replace hm := ip_e hm c61
      exact zx_lv [2] [(5, .int (x5))] rfl (j_X12_told_262 C htab hin    hm)
    · replace hm := in_e hm c61
      refine zx_iload C dX12_told_234 2 rfl ?_
      refine zx_aload_n C dX12_told_236 0 rfl ?_
      refine zx_iload_n C dX12_told_237 1 rfl ?_
      refine zx_iload C dX12_told_238 3 rfl ?_
      obtain ⟨k62, i63, hm⟩ := ckO_e hm
      obtain ⟨v64, ρ65, h66, hm⟩ := cll_e hm
      refine zx_callV (σ := ρ59) C [.int (x1), .int (x7)] tC_11 k62 i63 Y_X12_entryNode W_8_52 W_8_54 Wp_83 (c_X12_entryNode h66) (by decide) (by decide) rfl (Nat.le_of_ble_eq_true rfl) dX12_told_240 rfl ?_
      refine zx_bipush (v := 64) C dX12_told_243 (by decide) ?_
      refine zx_icmp_eq C 252 dX12_told_245 (by decide) (fun c67 => ?_) (fun c67 => ?_)
      · replace hm := ip_e hm c67
        refine zx_iconst (v := 0) C dX12_told_252 (by decide) ?_
        exact zx_lv [0, 1, 3] [(0, .ref (x0)), (1, .int (x1)), (7, .int (x7))] rfl (j_X12_told_253 C htab hin hrc224   hm)
      · replace hm := in_e hm c67
        refine zx_iconst (v := 1) C dX12_told_248 (by decide) ?_
        refine zx_goto C 253 dX12_told_249 (by decide) ?_
        exact zx_lv [0, 1, 3] [(0, .ref (x0)), (1, .int (x1)), (7, .int (x7))] rfl (j_X12_told_253 C htab hin hrc224   hm)
set_option maxRecDepth 100000 in
set_option maxHeartbeats 1000000 in
theorem c_X12_told {l : Launch} {D : va_G} {aC : Nat → ClassId} {b0 fu : Nat} {a0 : Nat} {p0 : Int32} {p1 : Int32} {σ τ : tM} {v : Int32} (hm : m_X12_told b0 fu a0 p0 p1 σ = some (v, τ)) : tMt l D aC b0 yX12_told (Cond.code yX12_told cX12_told 8 (some .int)) 6 134 [.ref (a0), .int (p0), .int (p1)] σ (.inl (some (.int v))) τ := by
  unfold m_X12_told at hm
  obtain ⟨hg, hm⟩ := grw_e hm
  refine tMt_of (n := 0) rfl (Nat.le_of_ble_eq_true rfl) hg ?_
  intro p e s m below meth c C htab hin
  refine zx_lv [0, 1, 2] [(0, .ref (a0)), (1, .int (p0)), (2, .int (p1))] rfl ?_
  refine zx_aload_n C dX12_told_0 0 rfl ?_
  refine zx_iload_n C dX12_told_1 1 rfl ?_
  refine zx_iconst (v := 0) C dX12_told_2 (by decide) ?_
  obtain ⟨k1, i2, hm⟩ := ckO_e hm
  obtain ⟨v3, ρ4, h5, hm⟩ := cll_e hm
  refine zx_callV (σ := σ) C [.int (p0), .int (0)] tC_11 k1 i2 Y_X12_node W_8_40 W_8_42 Wp_80 (c_X12_node h5) (by decide) (by decide) rfl (Nat.le_of_ble_eq_true rfl) dX12_told_3 rfl ?_
  refine zx_istore_n C [(3, .int (v3)), (0, .ref (a0)), (1, .int (p0)), (2, .int (p1))] dX12_told_6 rfl (by decide) rfl ?_
  refine zx_aload_n C dX12_told_7 1 rfl ?_
  refine zx_iload_n C dX12_told_8 2 rfl ?_
  refine zx_iconst (v := 1) C dX12_told_9 (by decide) ?_
  obtain ⟨k6, i7, hm⟩ := ckO_e hm
  obtain ⟨v8, ρ9, h10, hm⟩ := cll_e hm
  refine zx_callV (σ := ρ4) C [.int (p0), .int (1)] tC_11 k6 i7 Y_X12_node W_8_40 W_8_42 Wp_80 (c_X12_node h10) (by decide) (by decide) rfl (Nat.le_of_ble_eq_true rfl) dX12_told_10 rfl ?_
  refine zx_istore C [(4, .int (v8)), (3, .int (v3)), (0, .ref (a0)), (1, .int (p0)), (2, .int (p1))] dX12_told_13 (by decide) rfl ?_
  refine zx_iconst (v := 0) C dX12_told_15 (by decide) ?_
  refine zx_istore C [(5, .int (0)), (4, .int (v8)), (3, .int (v3)), (0, .ref (a0)), (1, .int (p0)), (2, .int (p1))] dX12_told_16 (by decide) rfl ?_
  refine zx_iload_n C dX12_told_18 5 rfl ?_
  rcases Classical.em ((p1) = (0)) with c19_0 | c19_0
  · replace hm := ip_e hm c19_0
    refine zx_tabIn (off := 37) C 56 dX12_told_19 (by rw [c19_0]; decide) (by rw [c19_0]; decide) (by rw [c19_0]; decide) (by decide) ?_
    refine zx_iload_n C dX12_told_56 2 rfl ?_
    obtain ⟨rfl, rfl⟩ := ret_e hm
    exact zx_iret C rfl rfl rfl dX12_told_57
  · replace hm := in_e hm c19_0
    rcases Classical.em ((p1) = (1)) with c19_1 | c19_1
    · replace hm := ip_e hm c19_1
      refine zx_tabIn (off := 39) C 58 dX12_told_19 (by rw [c19_1]; decide) (by rw [c19_1]; decide) (by rw [c19_1]; decide) (by decide) ?_
      refine zx_iload_n C dX12_told_58 2 rfl ?_
      refine zx_iconst (v := 3) C dX12_told_59 (by decide) ?_
      refine zx_icmp_ne C 72 dX12_told_60 (by decide) (fun c11 => ?_) (fun c11 => ?_)
      · replace hm := in_e hm c11
        refine zx_iload C dX12_told_72 1 rfl ?_
        exact zx_lv [] [] rfl (j_X12_told_74 C htab hin    hm)
      · replace hm := ip_e hm c11
        refine zx_aload_n C dX12_told_63 3 rfl ?_
        refine zx_iload_n C dX12_told_64 4 rfl ?_
        refine zx_iconst (v := 4) C dX12_told_65 (by decide) ?_
        obtain ⟨k12, i13, hm⟩ := ckO_e hm
        obtain ⟨v14, ρ15, h16, hm⟩ := cll_e hm
        refine zx_callV (σ := ρ9) C [.int (p0), .int (4)] tC_11 k12 i13 Y_X12_node W_8_40 W_8_42 Wp_80 (c_X12_node h16) (by decide) (by decide) rfl (Nat.le_of_ble_eq_true rfl) dX12_told_66 rfl ?_
        refine zx_goto C 74 dX12_told_69 (by decide) ?_
        exact zx_lv [] [] rfl (j_X12_told_74 C htab hin    hm)
    · replace hm := in_e hm c19_1
      rcases Classical.em ((p1) = (2)) with c19_2 | c19_2
      · replace hm := ip_e hm c19_2
        refine zx_tabIn (off := 56) C 75 dX12_told_19 (by rw [c19_2]; decide) (by rw [c19_2]; decide) (by rw [c19_2]; decide) (by decide) ?_
        refine zx_aload_n C dX12_told_75 3 rfl ?_
        refine zx_iload_n C dX12_told_76 4 rfl ?_
        refine zx_iconst (v := 2) C dX12_told_77 (by decide) ?_
        obtain ⟨k17, i18, hm⟩ := ckO_e hm
        obtain ⟨v19, ρ20, h21, hm⟩ := cll_e hm
        refine zx_callV (σ := ρ9) C [.int (p0), .int (2)] tC_11 k17 i18 Y_X12_node W_8_40 W_8_42 Wp_80 (c_X12_node h21) (by decide) (by decide) rfl (Nat.le_of_ble_eq_true rfl) dX12_told_78 rfl ?_
        obtain ⟨rfl, rfl⟩ := ret_e hm
        exact zx_iret C rfl rfl rfl dX12_told_81
      · replace hm := in_e hm c19_2
        rcases Classical.em ((p1) = (3)) with c19_3 | c19_3
        · replace hm := ip_e hm c19_3
          refine zx_tabIn (off := 63) C 82 dX12_told_19 (by rw [c19_3]; decide) (by rw [c19_3]; decide) (by rw [c19_3]; decide) (by decide) ?_
          refine zx_iload_n C dX12_told_82 4 rfl ?_
          obtain ⟨rfl, rfl⟩ := ret_e hm
          exact zx_iret C rfl rfl rfl dX12_told_83
        · replace hm := in_e hm c19_3
          rcases Classical.em ((p1) = (4)) with c19_4 | c19_4
          · replace hm := ip_e hm c19_4
            refine zx_tabIn (off := 65) C 84 dX12_told_19 (by rw [c19_4]; decide) (by rw [c19_4]; decide) (by rw [c19_4]; decide) (by decide) ?_
            refine zx_iconst (v := 0) C dX12_told_84 (by decide) ?_
            refine zx_istore C [(6, .int (0)), (5, .int (0)), (4, .int (v8)), (3, .int (v3)), (0, .ref (a0)), (1, .int (p0)), (2, .int (p1))] dX12_told_85 (by decide) rfl ?_
            exact zx_lv [4, 5, 2, 1, 0] [(0, .ref (a0)), (1, .int (p0)), (4, .int (v8)), (5, .int (0)), (6, .int (0))] rfl (l_X12_told_87 C htab hin  _ _ _ _ _ _ _ hm)
          · replace hm := in_e hm c19_4
            rcases Classical.em ((p1) = (5)) with c19_5 | c19_5
            · replace hm := ip_e hm c19_5
              refine zx_tabIn (off := 112) C 131 dX12_told_19 (by rw [c19_5]; decide) (by rw [c19_5]; decide) (by rw [c19_5]; decide) (by decide) ?_
              refine zx_aload_n C dX12_told_131 3 rfl ?_
              refine zx_iload_n C dX12_told_132 4 rfl ?_
              refine zx_bipush (v := 93) C dX12_told_133 (by decide) ?_
              obtain ⟨k32, i33, hm⟩ := ckO_e hm
              obtain ⟨v34, ρ35, h36, hm⟩ := cll_e hm
              refine zx_callV (σ := ρ9) C [.int (p0), .int (93)] tC_11 k32 i33 Y_X12_node W_8_40 W_8_42 Wp_80 (c_X12_node h36) (by decide) (by decide) rfl (Nat.le_of_ble_eq_true rfl) dX12_told_135 rfl ?_
              refine zx_if_eq C 145 dX12_told_138 (by decide) (fun c37 => ?_) (fun c37 => ?_)
              · replace hm := ip_e hm c37
                refine zx_iconst (v := 0) C dX12_told_145 (by decide) ?_
                exact zx_lv [3, 4] [(0, .ref (a0)), (1, .int (p0))] rfl (j_X12_told_146 C htab hin    hm)
              · replace hm := in_e hm c37
                refine zx_iconst (v := 1) C dX12_told_141 (by decide) ?_
                refine zx_goto C 146 dX12_told_142 (by decide) ?_
                exact zx_lv [3, 4] [(0, .ref (a0)), (1, .int (p0))] rfl (j_X12_told_146 C htab hin    hm)
            · replace hm := in_e hm c19_5
              have g19_0 : (p1).toInt ≠ 0 := fun e9 => c19_0 (Int32.toInt_inj.mp (e9.trans (by decide)))
              have g19_1 : (p1).toInt ≠ 1 := fun e9 => c19_1 (Int32.toInt_inj.mp (e9.trans (by decide)))
              have g19_2 : (p1).toInt ≠ 2 := fun e9 => c19_2 (Int32.toInt_inj.mp (e9.trans (by decide)))
              have g19_3 : (p1).toInt ≠ 3 := fun e9 => c19_3 (Int32.toInt_inj.mp (e9.trans (by decide)))
              have g19_4 : (p1).toInt ≠ 4 := fun e9 => c19_4 (Int32.toInt_inj.mp (e9.trans (by decide)))
              have g19_5 : (p1).toInt ≠ 5 := fun e9 => c19_5 (Int32.toInt_inj.mp (e9.trans (by decide)))
              refine zx_tabOut C 216 dX12_told_19 (by omega) (by decide) ?_
              refine zx_iload_n C dX12_told_216 2 rfl ?_
              refine zx_iconst (v := 2) C dX12_told_217 (by decide) ?_
              refine zx_icmp_ne C 262 dX12_told_218 (by decide) (fun c55 => ?_) (fun c55 => ?_)
              · replace hm := in_e hm c55
                exact zx_lv [0] [(5, .int (0))] rfl (j_X12_told_262 C htab hin    hm)
              · replace hm := ip_e hm c55
                refine zx_iconst (v := 0) C dX12_told_221 (by decide) ?_
                refine zx_istore C [(7, .int (0)), (5, .int (0)), (4, .int (v8)), (3, .int (v3)), (0, .ref (a0)), (1, .int (p0)), (2, .int (p1))] dX12_told_222 (by decide) rfl ?_
                exact zx_lv [4, 5, 1, 0] [(0, .ref (a0)), (1, .int (p0)), (5, .int (0)), (7, .int (0))] rfl (l_X12_told_224 C htab hin  _ _ _ _ _ _ hm)
abbrev cX12_cut : ByteArray := prog_13_method_107_code
def yX12_cut : MethodName := ⟨"SyncTreeModel", "cut", "(I)I"⟩
theorem Y_X12_cut : tY yX12_cut cX12_cut 2 (some .int) 1 := ⟨W_9_71, W_1_14, ⟨by decide +kernel, by decide +kernel⟩, by decide +kernel⟩
theorem dX12_cut_0 : decode cX12_cut 0 = .ok (.aload_n 0, 1) := by decide +kernel
theorem dX12_cut_1 : decode cX12_cut 1 = .ok (.iconst 0, 1) := by decide +kernel
theorem dX12_cut_2 : decode cX12_cut 2 = .ok (.putfield 3, 3) := by decide +kernel
theorem dX12_cut_5 : decode cX12_cut 5 = .ok (.iload_n 1, 1) := by decide +kernel
theorem dX12_cut_6 : decode cX12_cut 6 = .ok (.iconst (-1), 1) := by decide +kernel
theorem dX12_cut_7 : decode cX12_cut 7 = .ok (.if_icmp .ge 6, 3) := by decide +kernel
theorem dX12_cut_10 : decode cX12_cut 10 = .ok (.bipush (-9), 2) := by decide +kernel
theorem dX12_cut_12 : decode cX12_cut 12 = .ok (.ireturn, 1) := by decide +kernel
theorem dX12_cut_13 : decode cX12_cut 13 = .ok (.aload_n 0, 1) := by decide +kernel
theorem dX12_cut_14 : decode cX12_cut 14 = .ok (.iload_n 1, 1) := by decide +kernel
theorem dX12_cut_15 : decode cX12_cut 15 = .ok (.putfield 44, 3) := by decide +kernel
theorem dX12_cut_18 : decode cX12_cut 18 = .ok (.iload_n 1, 1) := by decide +kernel
theorem dX12_cut_19 : decode cX12_cut 19 = .ok (.ireturn, 1) := by decide +kernel
def m_X12_cut (b0 fu : Nat) (a0 : Nat) (p0 : Int32) (σ : tM) : Option ((Int32) × tM) := grw σ (ckO b0 (σ) (a0) 11 (if ((-1)) ≤ (p0) then some (p0, sI (sI (σ) (a0) 0 (0)) (a0) 19 (p0)) else some ((-9), sI (σ) (a0) 0 (0))))
set_option maxRecDepth 100000 in
set_option maxHeartbeats 1000000 in
theorem c_X12_cut {l : Launch} {D : va_G} {aC : Nat → ClassId} {b0 fu : Nat} {a0 : Nat} {p0 : Int32} {σ τ : tM} {v : Int32} (hm : m_X12_cut b0 fu a0 p0 σ = some (v, τ)) : tMt l D aC b0 yX12_cut (Cond.code yX12_cut cX12_cut 2 (some .int)) 0 0 [.ref (a0), .int (p0)] σ (.inl (some (.int v))) τ := by
  unfold m_X12_cut at hm
  obtain ⟨hg, hm⟩ := grw_e hm
  refine tMt_of (n := 0) rfl (Nat.le_of_ble_eq_true rfl) hg ?_
  intro p e s m below meth c C htab hin
  refine zx_lv [0, 1] [(0, .ref (a0)), (1, .int (p0))] rfl ?_
  refine zx_aload_n C dX12_cut_0 0 rfl ?_
  refine zx_iconst (v := 0) C dX12_cut_1 (by decide) ?_
  obtain ⟨k1, i2, hm⟩ := ckO_e hm
  refine zx_put (j := 0) (ρ := sI (σ) (a0) 0 (0)) C tC_11 k1 i2 ⟨by decide, Or.inl W_6_220⟩ rfl rfl rfl (sI_ok (fun _ => rfl)) dX12_cut_2 ?_
  refine zx_iload_n C dX12_cut_5 1 rfl ?_
  refine zx_iconst (v := (-1)) C dX12_cut_6 (by decide) ?_
  refine zx_icmp_ge C 13 dX12_cut_7 (by decide) (fun c3 => ?_) (fun c3 => ?_)
  · replace hm := ip_e hm c3
    refine zx_aload_n C dX12_cut_13 0 rfl ?_
    refine zx_iload_n C dX12_cut_14 1 rfl ?_
    refine zx_put (j := 19) (ρ := sI (sI (σ) (a0) 0 (0)) (a0) 19 (p0)) C tC_11 k1 i2 ⟨by decide, Or.inl W_6_238⟩ rfl rfl rfl (sI_ok (fun _ => rfl)) dX12_cut_15 ?_
    refine zx_iload_n C dX12_cut_18 1 rfl ?_
    obtain ⟨rfl, rfl⟩ := ret_e hm
    exact zx_iret C rfl rfl rfl dX12_cut_19
  · replace hm := in_e hm c3
    refine zx_bipush (v := (-9)) C dX12_cut_10 (by decide) ?_
    obtain ⟨rfl, rfl⟩ := ret_e hm
    exact zx_iret C rfl rfl rfl dX12_cut_12
abbrev cX12_crash : ByteArray := prog_13_method_108_code
def yX12_crash : MethodName := ⟨"SyncTreeModel", "crash", "()I"⟩
theorem Y_X12_crash : tY yX12_crash cX12_crash 1 (some .int) 0 := ⟨W_9_75, W_1_14, ⟨by decide +kernel, by decide +kernel⟩, by decide +kernel⟩
theorem dX12_crash_0 : decode cX12_crash 0 = .ok (.aload_n 0, 1) := by decide +kernel
theorem dX12_crash_1 : decode cX12_crash 1 = .ok (.iconst 0, 1) := by decide +kernel
theorem dX12_crash_2 : decode cX12_crash 2 = .ok (.putfield 3, 3) := by decide +kernel
theorem dX12_crash_5 : decode cX12_crash 5 = .ok (.aload_n 0, 1) := by decide +kernel
theorem dX12_crash_6 : decode cX12_crash 6 = .ok (.getfield 58, 3) := by decide +kernel
theorem dX12_crash_9 : decode cX12_crash 9 = .ok (.ifCond .ne 8, 3) := by decide +kernel
theorem dX12_crash_12 : decode cX12_crash 12 = .ok (.aload_n 0, 1) := by decide +kernel
theorem dX12_crash_13 : decode cX12_crash 13 = .ok (.invokevirtual 427, 3) := by decide +kernel
theorem dX12_crash_16 : decode cX12_crash 16 = .ok (.ireturn, 1) := by decide +kernel
theorem dX12_crash_17 : decode cX12_crash 17 = .ok (.aload_n 0, 1) := by decide +kernel
theorem dX12_crash_18 : decode cX12_crash 18 = .ok (.invokevirtual 47, 3) := by decide +kernel
theorem dX12_crash_21 : decode cX12_crash 21 = .ok (.aload_n 0, 1) := by decide +kernel
theorem dX12_crash_22 : decode cX12_crash 22 = .ok (.getfield 93, 3) := by decide +kernel
theorem dX12_crash_25 : decode cX12_crash 25 = .ok (.ireturn, 1) := by decide +kernel
def m_X12_crash (b0 fu : Nat) (a0 : Nat) (σ : tM) : Option ((Int32) × tM) := grw σ (ckO b0 (σ) (a0) 11 (if (tI (sI (σ) (a0) 0 (0)) (a0) 18) = (0) then cll (m_X12_off b0 fu (a0) (sI (σ) (a0) 0 (0))) (fun v9 ρ10 => some (v9, ρ10)) else cll (m_X12_powerOff b0 fu (a0) (sI (σ) (a0) 0 (0))) (fun v4 ρ5 => ckO b0 (ρ5) (a0) 11 (some (tI (ρ5) (a0) 16, ρ5)))))
set_option maxRecDepth 100000 in
set_option maxHeartbeats 1000000 in
theorem c_X12_crash {l : Launch} {D : va_G} {aC : Nat → ClassId} {b0 fu : Nat} {a0 : Nat} {σ τ : tM} {v : Int32} (hm : m_X12_crash b0 fu a0 σ = some (v, τ)) : tMt l D aC b0 yX12_crash (Cond.code yX12_crash cX12_crash 1 (some .int)) 1 21 [.ref (a0)] σ (.inl (some (.int v))) τ := by
  unfold m_X12_crash at hm
  obtain ⟨hg, hm⟩ := grw_e hm
  refine tMt_of (n := 0) rfl (Nat.le_of_ble_eq_true rfl) hg ?_
  intro p e s m below meth c C htab hin
  refine zx_lv [0] [(0, .ref (a0))] rfl ?_
  refine zx_aload_n C dX12_crash_0 0 rfl ?_
  refine zx_iconst (v := 0) C dX12_crash_1 (by decide) ?_
  obtain ⟨k1, i2, hm⟩ := ckO_e hm
  refine zx_put (j := 0) (ρ := sI (σ) (a0) 0 (0)) C tC_11 k1 i2 ⟨by decide, Or.inl W_6_220⟩ rfl rfl rfl (sI_ok (fun _ => rfl)) dX12_crash_2 ?_
  refine zx_aload_n C dX12_crash_5 0 rfl ?_
  refine zx_get (j := 18) C tC_11 k1 i2 ⟨by decide, Or.inl W_6_237⟩ dX12_crash_6 (.int (tI (sI (σ) (a0) 0 (0)) (a0) 18)) rfl ?_
  refine zx_if_ne C 17 dX12_crash_9 (by decide) (fun c3 => ?_) (fun c3 => ?_)
  · replace hm := in_e hm c3
    refine zx_aload_n C dX12_crash_17 0 rfl ?_
    obtain ⟨v4, ρ5, h6, hm⟩ := cll_e hm
    refine zx_callV (σ := sI (σ) (a0) 0 (0)) C [] tC_11 k1 i2 Y_X12_powerOff W_7_220 W_7_222 Wp_66 (c_X12_powerOff h6) (by decide) (by decide) rfl (Nat.le_of_ble_eq_true rfl) dX12_crash_18 rfl ?_
    refine zx_aload_n C dX12_crash_21 0 rfl ?_
    obtain ⟨k7, i8, hm⟩ := ckO_e hm
    refine zx_get (j := 16) C tC_11 k7 i8 ⟨by decide, Or.inl W_6_235⟩ dX12_crash_22 (.int (tI (ρ5) (a0) 16)) rfl ?_
    obtain ⟨rfl, rfl⟩ := ret_e hm
    exact zx_iret C rfl rfl rfl dX12_crash_25
  · replace hm := ip_e hm c3
    refine zx_aload_n C dX12_crash_12 0 rfl ?_
    obtain ⟨v9, ρ10, h11, hm⟩ := cll_e hm
    refine zx_callV (σ := sI (σ) (a0) 0 (0)) C [] tC_11 k1 i2 Y_X12_off W_8_135 W_8_137 Wp_103 (c_X12_off h11) (by decide) (by decide) rfl (Nat.le_of_ble_eq_true rfl) dX12_crash_13 rfl ?_
    obtain ⟨rfl, rfl⟩ := ret_e hm
    exact zx_iret C rfl rfl rfl dX12_crash_16
