abbrev cX12_isWhole : ByteArray := prog_13_method_61_code
def yX12_isWhole : MethodName := ⟨"SyncTreeModel", "isWhole", "(I)Z"⟩
theorem Y_X12_isWhole : tY yX12_isWhole cX12_isWhole 5 (some .boolean) 1 := ⟨W_9_105, W_1_14, ⟨by decide +kernel, by decide +kernel⟩, by decide +kernel⟩
theorem dX12_isWhole_0 : decode cX12_isWhole 0 = .ok (.iload_n 1, 1) := by decide +kernel
theorem dX12_isWhole_1 : decode cX12_isWhole 1 = .ok (.aload_n 0, 1) := by decide +kernel
theorem dX12_isWhole_2 : decode cX12_isWhole 2 = .ok (.getfield 128, 3) := by decide +kernel
theorem dX12_isWhole_5 : decode cX12_isWhole 5 = .ok (.isub, 1) := by decide +kernel
theorem dX12_isWhole_6 : decode cX12_isWhole 6 = .ok (.iconst 1, 1) := by decide +kernel
theorem dX12_isWhole_7 : decode cX12_isWhole 7 = .ok (.isub, 1) := by decide +kernel
theorem dX12_isWhole_8 : decode cX12_isWhole 8 = .ok (.istore_n 2, 1) := by decide +kernel
theorem dX12_isWhole_9 : decode cX12_isWhole 9 = .ok (.iload_n 2, 1) := by decide +kernel
theorem dX12_isWhole_10 : decode cX12_isWhole 10 = .ok (.aload_n 0, 1) := by decide +kernel
theorem dX12_isWhole_11 : decode cX12_isWhole 11 = .ok (.getfield 137, 3) := by decide +kernel
theorem dX12_isWhole_14 : decode cX12_isWhole 14 = .ok (.if_icmp .lt 5, 3) := by decide +kernel
theorem dX12_isWhole_17 : decode cX12_isWhole 17 = .ok (.iconst 0, 1) := by decide +kernel
theorem dX12_isWhole_18 : decode cX12_isWhole 18 = .ok (.ireturn, 1) := by decide +kernel
theorem dX12_isWhole_19 : decode cX12_isWhole 19 = .ok (.iconst 0, 1) := by decide +kernel
theorem dX12_isWhole_20 : decode cX12_isWhole 20 = .ok (.istore_n 3, 1) := by decide +kernel
theorem dX12_isWhole_21 : decode cX12_isWhole 21 = .ok (.iload_n 3, 1) := by decide +kernel
theorem dX12_isWhole_22 : decode cX12_isWhole 22 = .ok (.aload_n 0, 1) := by decide +kernel
theorem dX12_isWhole_23 : decode cX12_isWhole 23 = .ok (.getfield 125, 3) := by decide +kernel
theorem dX12_isWhole_26 : decode cX12_isWhole 26 = .ok (.iload_n 2, 1) := by decide +kernel
theorem dX12_isWhole_27 : decode cX12_isWhole 27 = .ok (.iaload, 1) := by decide +kernel
theorem dX12_isWhole_28 : decode cX12_isWhole 28 = .ok (.if_icmp .ge 56, 3) := by decide +kernel
theorem dX12_isWhole_31 : decode cX12_isWhole 31 = .ok (.bipush 34, 2) := by decide +kernel
theorem dX12_isWhole_33 : decode cX12_isWhole 33 = .ok (.aload_n 0, 1) := by decide +kernel
theorem dX12_isWhole_34 : decode cX12_isWhole 34 = .ok (.getfield 143, 3) := by decide +kernel
theorem dX12_isWhole_37 : decode cX12_isWhole 37 = .ok (.iload_n 2, 1) := by decide +kernel
theorem dX12_isWhole_38 : decode cX12_isWhole 38 = .ok (.iaload, 1) := by decide +kernel
theorem dX12_isWhole_39 : decode cX12_isWhole 39 = .ok (.iload_n 3, 1) := by decide +kernel
theorem dX12_isWhole_40 : decode cX12_isWhole 40 = .ok (.iadd, 1) := by decide +kernel
theorem dX12_isWhole_41 : decode cX12_isWhole 41 = .ok (.aload_n 0, 1) := by decide +kernel
theorem dX12_isWhole_42 : decode cX12_isWhole 42 = .ok (.getfield 38, 3) := by decide +kernel
theorem dX12_isWhole_45 : decode cX12_isWhole 45 = .ok (.irem, 1) := by decide +kernel
theorem dX12_isWhole_46 : decode cX12_isWhole 46 = .ok (.iadd, 1) := by decide +kernel
theorem dX12_isWhole_47 : decode cX12_isWhole 47 = .ok (.istore 4, 2) := by decide +kernel
theorem dX12_isWhole_49 : decode cX12_isWhole 49 = .ok (.aload_n 0, 1) := by decide +kernel
theorem dX12_isWhole_50 : decode cX12_isWhole 50 = .ok (.getfield 68, 3) := by decide +kernel
theorem dX12_isWhole_53 : decode cX12_isWhole 53 = .ok (.iload 4, 2) := by decide +kernel
theorem dX12_isWhole_55 : decode cX12_isWhole 55 = .ok (.iaload, 1) := by decide +kernel
theorem dX12_isWhole_56 : decode cX12_isWhole 56 = .ok (.iconst 2, 1) := by decide +kernel
theorem dX12_isWhole_57 : decode cX12_isWhole 57 = .ok (.if_icmp .ne 19, 3) := by decide +kernel
theorem dX12_isWhole_60 : decode cX12_isWhole 60 = .ok (.aload_n 0, 1) := by decide +kernel
theorem dX12_isWhole_61 : decode cX12_isWhole 61 = .ok (.getfield 74, 3) := by decide +kernel
theorem dX12_isWhole_64 : decode cX12_isWhole 64 = .ok (.iload 4, 2) := by decide +kernel
theorem dX12_isWhole_66 : decode cX12_isWhole 66 = .ok (.iaload, 1) := by decide +kernel
theorem dX12_isWhole_67 : decode cX12_isWhole 67 = .ok (.aload_n 0, 1) := by decide +kernel
theorem dX12_isWhole_68 : decode cX12_isWhole 68 = .ok (.getfield 140, 3) := by decide +kernel
theorem dX12_isWhole_71 : decode cX12_isWhole 71 = .ok (.iload_n 2, 1) := by decide +kernel
theorem dX12_isWhole_72 : decode cX12_isWhole 72 = .ok (.iaload, 1) := by decide +kernel
theorem dX12_isWhole_73 : decode cX12_isWhole 73 = .ok (.if_icmp .eq 5, 3) := by decide +kernel
theorem dX12_isWhole_76 : decode cX12_isWhole 76 = .ok (.iconst 0, 1) := by decide +kernel
theorem dX12_isWhole_77 : decode cX12_isWhole 77 = .ok (.ireturn, 1) := by decide +kernel
theorem dX12_isWhole_78 : decode cX12_isWhole 78 = .ok (.iinc 3 1, 3) := by decide +kernel
theorem dX12_isWhole_81 : decode cX12_isWhole 81 = .ok (.goto (-60), 3) := by decide +kernel
theorem dX12_isWhole_84 : decode cX12_isWhole 84 = .ok (.iconst 1, 1) := by decide +kernel
theorem dX12_isWhole_85 : decode cX12_isWhole 85 = .ok (.ireturn, 1) := by decide +kernel
set_option maxRecDepth 100000 in
set_option maxHeartbeats 1000000 in
theorem j_X12_isWhole_76 {p : Program} {l : Launch} {e : Env} {s : State} {m : MethodId} {args : Array Value} {below : List Frame} {meth : Method} {c : Code} {D : va_G} {aC : Nat → ClassId} {b0 fu : Nat} {σ0 τ : tM} {v : Int32}  (C : tCx p l s m args meth c yX12_isWhole.cls cX12_isWhole 5 (some .boolean) D aC b0 σ0) (htab : ∀ x ∈ c.exceptionTable.toList, False) (hin : meth.name = yX12_isWhole.name)   {σ : tM} (hm : J_X12_isWhole_76 b0 fu   σ = some (v, τ)) : tX p l e s m args below meth c 5 0 0 D aC b0 σ0 (.inl (some (.int v))) τ 76 [] [] σ := by
  unfold J_X12_isWhole_76 at hm
  refine zx_iconst (v := 0) C dX12_isWhole_76 (by decide) ?_
  obtain ⟨rfl, rfl⟩ := ret_e hm
  exact zx_zret C rfl (by decide) rfl rfl dX12_isWhole_77
set_option maxRecDepth 100000 in
set_option maxHeartbeats 1000000 in
theorem l_X12_isWhole_21 {p : Program} {l : Launch} {e : Env} {s : State} {m : MethodId} {args : Array Value} {below : List Frame} {meth : Method} {c : Code} {D : va_G} {aC : Nat → ClassId} {b0 fu : Nat} {σ0 τ : tM} {v : Int32}  (C : tCx p l s m args meth c yX12_isWhole.cls cX12_isWhole 5 (some .boolean) D aC b0 σ0) (htab : ∀ x ∈ c.exceptionTable.toList, False) (hin : meth.name = yX12_isWhole.name)  : ∀ (n : Nat) (x0 : Nat) (x2 : Int32) (x3 : Int32) (σ : tM), L_X12_isWhole_21 b0 fu  n x0 x2 x3 σ = some (v, τ) → tX p l e s m args below meth c 5 0 0 D aC b0 σ0 (.inl (some (.int v))) τ 21 [(0, .ref (x0)), (2, .int (x2)), (3, .int (x3))] [] σ := by
  intro n
  induction n with
  | zero => intro x0 x2 x3 σ hm; unfold L_X12_isWhole_21 at hm; cases hm
  | succ n ih =>
    intro x0 x2 x3 σ hm
    unfold L_X12_isWhole_21 at hm
    obtain ⟨rc21, hrc⟩ : ∃ z, z = L_X12_isWhole_21 b0 fu  n := ⟨_, rfl⟩
    replace hm := ltb_e hm hrc
    rw [← hrc] at ih
    have hrc21 := ih
    clear ih hrc
    refine zx_iload_n C dX12_isWhole_21 2 rfl ?_
    refine zx_aload_n C dX12_isWhole_22 0 rfl ?_
    obtain ⟨k5, i6, hm⟩ := ckO_e hm
    obtain ⟨a7, h8, hm⟩ := osm_e hm
    refine zx_get (j := 39) C tC_11 k5 i6 ⟨by decide, Or.inl W_7_18⟩ dX12_isWhole_23 (.ref a7) (rf_s h8) ?_
    refine zx_iload_n C dX12_isWhole_26 1 rfl ?_
    obtain ⟨n11, k9, i10, hm⟩ := ckR_e hm
    obtain ⟨h12, hm⟩ := ckI_e hm
    refine zx_iald C k9 i10 h12 dX12_isWhole_27 ?_
    refine zx_icmp_ge C 84 dX12_isWhole_28 (by decide) (fun c13 => ?_) (fun c13 => ?_)
    · replace hm := ip_e hm c13
      refine zx_iconst (v := 1) C dX12_isWhole_84 (by decide) ?_
      obtain ⟨rfl, rfl⟩ := ret_e hm
      exact zx_zret C rfl (by decide) rfl rfl dX12_isWhole_85
    · replace hm := in_e hm c13
      refine zx_bipush (v := 34) C dX12_isWhole_31 (by decide) ?_
      refine zx_aload_n C dX12_isWhole_33 0 rfl ?_
      obtain ⟨a14, h15, hm⟩ := osm_e hm
      refine zx_get (j := 38) C tC_11 k5 i6 ⟨by decide, Or.inl W_7_17⟩ dX12_isWhole_34 (.ref a14) (rf_s h15) ?_
      refine zx_iload_n C dX12_isWhole_37 1 rfl ?_
      obtain ⟨n18, k16, i17, hm⟩ := ckR_e hm
      obtain ⟨h19, hm⟩ := ckI_e hm
      refine zx_iald C k16 i17 h19 dX12_isWhole_38 ?_
      refine zx_iload_n C dX12_isWhole_39 2 rfl ?_
      refine zx_iadd C dX12_isWhole_40 ?_
      refine zx_aload_n C dX12_isWhole_41 0 rfl ?_
      refine zx_get (j := 6) C tC_11 k5 i6 ⟨by decide, Or.inl W_6_225⟩ dX12_isWhole_42 (.int (tI (σ) (x0) 6)) rfl ?_
      obtain ⟨h42, hm⟩ := ckD_e hm
      refine zx_irem C dX12_isWhole_45 h42 ?_
      refine zx_iadd C dX12_isWhole_46 ?_
      refine zx_topi (fun y20 hy20 => ?_)
      replace hm := ltb_e hm hy20
      refine zx_istore C [(4, .int (y20)), (0, .ref (x0)), (2, .int (x2)), (3, .int (x3))] dX12_isWhole_47 (by decide) rfl ?_
      refine zx_aload_n C dX12_isWhole_49 1 rfl ?_
      obtain ⟨a21, h22, hm⟩ := osm_e hm
      refine zx_get (j := 8) C tC_11 k5 i6 ⟨by decide, Or.inl W_6_227⟩ dX12_isWhole_50 (.ref a21) (rf_s h22) ?_
      refine zx_iload C dX12_isWhole_53 0 rfl ?_
      obtain ⟨n25, k23, i24, hm⟩ := ckR_e hm
      obtain ⟨h26, hm⟩ := ckI_e hm
      refine zx_iald C k23 i24 h26 dX12_isWhole_55 ?_
      refine zx_iconst (v := 2) C dX12_isWhole_56 (by decide) ?_
      refine zx_icmp_ne C 76 dX12_isWhole_57 (by decide) (fun c27 => ?_) (fun c27 => ?_)
      · replace hm := in_e hm c27
        exact zx_lv [] [] rfl (j_X12_isWhole_76 C htab hin    hm)
      · replace hm := ip_e hm c27
        refine zx_aload_n C dX12_isWhole_60 1 rfl ?_
        obtain ⟨a28, h29, hm⟩ := osm_e hm
        refine zx_get (j := 9) C tC_11 k5 i6 ⟨by decide, Or.inl W_6_228⟩ dX12_isWhole_61 (.ref a28) (rf_s h29) ?_
        refine zx_iload C dX12_isWhole_64 0 rfl ?_
        obtain ⟨n32, k30, i31, hm⟩ := ckR_e hm
        obtain ⟨h33, hm⟩ := ckI_e hm
        refine zx_iald C k30 i31 h33 dX12_isWhole_66 ?_
        refine zx_aload_n C dX12_isWhole_67 1 rfl ?_
        obtain ⟨a34, h35, hm⟩ := osm_e hm
        refine zx_get (j := 37) C tC_11 k5 i6 ⟨by decide, Or.inl W_7_16⟩ dX12_isWhole_68 (.ref a34) (rf_s h35) ?_
        refine zx_iload_n C dX12_isWhole_71 2 rfl ?_
        obtain ⟨n38, k36, i37, hm⟩ := ckR_e hm
        obtain ⟨h39, hm⟩ := ckI_e hm
        refine zx_iald C k36 i37 h39 dX12_isWhole_72 ?_
        refine zx_icmp_eq C 78 dX12_isWhole_73 (by decide) (fun c40 => ?_) (fun c40 => ?_)
        · replace hm := ip_e hm c40
          obtain ⟨y41, hy41⟩ : ∃ z : Int32, z = (x3) + Int32.ofInt 1 := ⟨_, rfl⟩
          replace hm := ltb_e hm hy41
          refine zx_iinc C [(3, .int (y41)), (4, .int (y20)), (0, .ref (x0)), (2, .int (x2))] dX12_isWhole_78 3 rfl hy41.symm (by decide) rfl ?_
          refine zx_goto C 21 dX12_isWhole_81 (by decide) ?_
          exact zx_lv [2, 3, 0] [(0, .ref (x0)), (2, .int (x2)), (3, .int (y41))] rfl (hrc21 _ _ _ _ hm)
        · replace hm := in_e hm c40
          exact zx_lv [] [] rfl (j_X12_isWhole_76 C htab hin    hm)
set_option maxRecDepth 100000 in
set_option maxHeartbeats 1000000 in
theorem c_X12_isWhole {l : Launch} {D : va_G} {aC : Nat → ClassId} {b0 fu : Nat} {a0 : Nat} {p0 : Int32} {σ τ : tM} {v : Int32} (hm : m_X12_isWhole b0 fu a0 p0 σ = some (v, τ)) : tMt l D aC b0 yX12_isWhole (Cond.code yX12_isWhole cX12_isWhole 5 (some .boolean)) 0 0 [.ref (a0), .int (p0)] σ (.inl (some (.int v))) τ := by
  unfold m_X12_isWhole at hm
  obtain ⟨hg, hm⟩ := grw_e hm
  refine tMt_of (n := 0) rfl (Nat.le_of_ble_eq_true rfl) hg ?_
  intro p e s m below meth c C htab hin
  refine zx_lv [0, 1] [(0, .ref (a0)), (1, .int (p0))] rfl ?_
  refine zx_iload_n C dX12_isWhole_0 1 rfl ?_
  refine zx_aload_n C dX12_isWhole_1 0 rfl ?_
  obtain ⟨k1, i2, hm⟩ := ckO_e hm
  refine zx_get (j := 35) C tC_11 k1 i2 ⟨by decide, Or.inl W_7_14⟩ dX12_isWhole_2 (.int (tI (σ) (a0) 35)) rfl ?_
  refine zx_isub C dX12_isWhole_5 ?_
  refine zx_iconst (v := 1) C dX12_isWhole_6 (by decide) ?_
  refine zx_isub C dX12_isWhole_7 ?_
  refine zx_topi (fun y3 hy3 => ?_)
  replace hm := ltb_e hm hy3
  refine zx_istore_n C [(2, .int (y3)), (0, .ref (a0)), (1, .int (p0))] dX12_isWhole_8 rfl (by decide) rfl ?_
  refine zx_iload_n C dX12_isWhole_9 0 rfl ?_
  refine zx_aload_n C dX12_isWhole_10 1 rfl ?_
  refine zx_get (j := 36) C tC_11 k1 i2 ⟨by decide, Or.inl W_7_15⟩ dX12_isWhole_11 (.int (tI (σ) (a0) 36)) rfl ?_
  refine zx_icmp_lt C 19 dX12_isWhole_14 (by decide) (fun c4 => ?_) (fun c4 => ?_)
  · replace hm := ip_e hm c4
    refine zx_iconst (v := 0) C dX12_isWhole_19 (by decide) ?_
    refine zx_istore_n C [(3, .int (0)), (2, .int (y3)), (0, .ref (a0)), (1, .int (p0))] dX12_isWhole_20 rfl (by decide) rfl ?_
    exact zx_lv [2, 1, 0] [(0, .ref (a0)), (2, .int (y3)), (3, .int (0))] rfl (l_X12_isWhole_21 C htab hin  _ _ _ _ _ hm)
  · replace hm := in_e hm c4
    refine zx_iconst (v := 0) C dX12_isWhole_17 (by decide) ?_
    obtain ⟨rfl, rfl⟩ := ret_e hm
    exact zx_zret C rfl (by decide) rfl rfl dX12_isWhole_18
abbrev cX12_keepChosen : ByteArray := prog_13_method_62_code
def yX12_keepChosen : MethodName := ⟨"SyncTreeModel", "keepChosen", "()V"⟩
theorem Y_X12_keepChosen : tY yX12_keepChosen cX12_keepChosen 4 none 0 := ⟨W_9_101, W_1_14, ⟨by decide +kernel, by decide +kernel⟩, by decide +kernel⟩
theorem dX12_keepChosen_0 : decode cX12_keepChosen 0 = .ok (.aload_n 0, 1) := by decide +kernel
theorem dX12_keepChosen_1 : decode cX12_keepChosen 1 = .ok (.getfield 87, 3) := by decide +kernel
theorem dX12_keepChosen_4 : decode cX12_keepChosen 4 = .ok (.istore_n 1, 1) := by decide +kernel
theorem dX12_keepChosen_5 : decode cX12_keepChosen 5 = .ok (.iconst 0, 1) := by decide +kernel
theorem dX12_keepChosen_6 : decode cX12_keepChosen 6 = .ok (.istore_n 2, 1) := by decide +kernel
theorem dX12_keepChosen_7 : decode cX12_keepChosen 7 = .ok (.iload_n 2, 1) := by decide +kernel
theorem dX12_keepChosen_8 : decode cX12_keepChosen 8 = .ok (.aload_n 0, 1) := by decide +kernel
theorem dX12_keepChosen_9 : decode cX12_keepChosen 9 = .ok (.getfield 361, 3) := by decide +kernel
theorem dX12_keepChosen_12 : decode cX12_keepChosen 12 = .ok (.arraylength, 1) := by decide +kernel
theorem dX12_keepChosen_13 : decode cX12_keepChosen 13 = .ok (.if_icmp .ge 16, 3) := by decide +kernel
theorem dX12_keepChosen_16 : decode cX12_keepChosen 16 = .ok (.aload_n 0, 1) := by decide +kernel
theorem dX12_keepChosen_17 : decode cX12_keepChosen 17 = .ok (.getfield 361, 3) := by decide +kernel
theorem dX12_keepChosen_20 : decode cX12_keepChosen 20 = .ok (.iload_n 2, 1) := by decide +kernel
theorem dX12_keepChosen_21 : decode cX12_keepChosen 21 = .ok (.iconst 0, 1) := by decide +kernel
theorem dX12_keepChosen_22 : decode cX12_keepChosen 22 = .ok (.iastore, 1) := by decide +kernel
theorem dX12_keepChosen_23 : decode cX12_keepChosen 23 = .ok (.iinc 2 1, 3) := by decide +kernel
theorem dX12_keepChosen_26 : decode cX12_keepChosen 26 = .ok (.goto (-19), 3) := by decide +kernel
theorem dX12_keepChosen_29 : decode cX12_keepChosen 29 = .ok (.iconst 0, 1) := by decide +kernel
theorem dX12_keepChosen_30 : decode cX12_keepChosen 30 = .ok (.istore_n 2, 1) := by decide +kernel
theorem dX12_keepChosen_31 : decode cX12_keepChosen 31 = .ok (.iload_n 2, 1) := by decide +kernel
theorem dX12_keepChosen_32 : decode cX12_keepChosen 32 = .ok (.aload_n 0, 1) := by decide +kernel
theorem dX12_keepChosen_33 : decode cX12_keepChosen 33 = .ok (.getfield 93, 3) := by decide +kernel
theorem dX12_keepChosen_36 : decode cX12_keepChosen 36 = .ok (.if_icmp .ge 54, 3) := by decide +kernel
theorem dX12_keepChosen_39 : decode cX12_keepChosen 39 = .ok (.aload_n 0, 1) := by decide +kernel
theorem dX12_keepChosen_40 : decode cX12_keepChosen 40 = .ok (.getfield 65, 3) := by decide +kernel
theorem dX12_keepChosen_43 : decode cX12_keepChosen 43 = .ok (.iload_n 1, 1) := by decide +kernel
theorem dX12_keepChosen_44 : decode cX12_keepChosen 44 = .ok (.iaload, 1) := by decide +kernel
theorem dX12_keepChosen_45 : decode cX12_keepChosen 45 = .ok (.istore_n 3, 1) := by decide +kernel
theorem dX12_keepChosen_46 : decode cX12_keepChosen 46 = .ok (.aload_n 0, 1) := by decide +kernel
theorem dX12_keepChosen_47 : decode cX12_keepChosen 47 = .ok (.getfield 361, 3) := by decide +kernel
theorem dX12_keepChosen_50 : decode cX12_keepChosen 50 = .ok (.iload_n 3, 1) := by decide +kernel
theorem dX12_keepChosen_51 : decode cX12_keepChosen 51 = .ok (.dup2, 1) := by decide +kernel
theorem dX12_keepChosen_52 : decode cX12_keepChosen 52 = .ok (.iaload, 1) := by decide +kernel
theorem dX12_keepChosen_53 : decode cX12_keepChosen 53 = .ok (.iconst 1, 1) := by decide +kernel
theorem dX12_keepChosen_54 : decode cX12_keepChosen 54 = .ok (.iadd, 1) := by decide +kernel
theorem dX12_keepChosen_55 : decode cX12_keepChosen 55 = .ok (.iastore, 1) := by decide +kernel
theorem dX12_keepChosen_56 : decode cX12_keepChosen 56 = .ok (.aload_n 0, 1) := by decide +kernel
theorem dX12_keepChosen_57 : decode cX12_keepChosen 57 = .ok (.getfield 361, 3) := by decide +kernel
theorem dX12_keepChosen_60 : decode cX12_keepChosen 60 = .ok (.iload_n 3, 1) := by decide +kernel
theorem dX12_keepChosen_61 : decode cX12_keepChosen 61 = .ok (.iaload, 1) := by decide +kernel
theorem dX12_keepChosen_62 : decode cX12_keepChosen 62 = .ok (.aload_n 0, 1) := by decide +kernel
theorem dX12_keepChosen_63 : decode cX12_keepChosen 63 = .ok (.getfield 62, 3) := by decide +kernel
theorem dX12_keepChosen_66 : decode cX12_keepChosen 66 = .ok (.iload_n 3, 1) := by decide +kernel
theorem dX12_keepChosen_67 : decode cX12_keepChosen 67 = .ok (.iaload, 1) := by decide +kernel
theorem dX12_keepChosen_68 : decode cX12_keepChosen 68 = .ok (.if_icmp .ne 8, 3) := by decide +kernel
theorem dX12_keepChosen_71 : decode cX12_keepChosen 71 = .ok (.aload_n 0, 1) := by decide +kernel
theorem dX12_keepChosen_72 : decode cX12_keepChosen 72 = .ok (.iload_n 1, 1) := by decide +kernel
theorem dX12_keepChosen_73 : decode cX12_keepChosen 73 = .ok (.invokevirtual 90, 3) := by decide +kernel
theorem dX12_keepChosen_76 : decode cX12_keepChosen 76 = .ok (.iload_n 1, 1) := by decide +kernel
theorem dX12_keepChosen_77 : decode cX12_keepChosen 77 = .ok (.iconst 1, 1) := by decide +kernel
theorem dX12_keepChosen_78 : decode cX12_keepChosen 78 = .ok (.iadd, 1) := by decide +kernel
theorem dX12_keepChosen_79 : decode cX12_keepChosen 79 = .ok (.sipush 256, 3) := by decide +kernel
theorem dX12_keepChosen_82 : decode cX12_keepChosen 82 = .ok (.irem, 1) := by decide +kernel
theorem dX12_keepChosen_83 : decode cX12_keepChosen 83 = .ok (.istore_n 1, 1) := by decide +kernel
theorem dX12_keepChosen_84 : decode cX12_keepChosen 84 = .ok (.iinc 2 1, 3) := by decide +kernel
theorem dX12_keepChosen_87 : decode cX12_keepChosen 87 = .ok (.goto (-56), 3) := by decide +kernel
theorem dX12_keepChosen_90 : decode cX12_keepChosen 90 = .ok (.aload_n 0, 1) := by decide +kernel
theorem dX12_keepChosen_91 : decode cX12_keepChosen 91 = .ok (.iconst 0, 1) := by decide +kernel
theorem dX12_keepChosen_92 : decode cX12_keepChosen 92 = .ok (.putfield 93, 3) := by decide +kernel
theorem dX12_keepChosen_95 : decode cX12_keepChosen 95 = .ok (.iconst 0, 1) := by decide +kernel
theorem dX12_keepChosen_96 : decode cX12_keepChosen 96 = .ok (.istore_n 2, 1) := by decide +kernel
theorem dX12_keepChosen_97 : decode cX12_keepChosen 97 = .ok (.iload_n 2, 1) := by decide +kernel
theorem dX12_keepChosen_98 : decode cX12_keepChosen 98 = .ok (.aload_n 0, 1) := by decide +kernel
theorem dX12_keepChosen_99 : decode cX12_keepChosen 99 = .ok (.getfield 62, 3) := by decide +kernel
theorem dX12_keepChosen_102 : decode cX12_keepChosen 102 = .ok (.arraylength, 1) := by decide +kernel
theorem dX12_keepChosen_103 : decode cX12_keepChosen 103 = .ok (.if_icmp .ge 16, 3) := by decide +kernel
theorem dX12_keepChosen_106 : decode cX12_keepChosen 106 = .ok (.aload_n 0, 1) := by decide +kernel
theorem dX12_keepChosen_107 : decode cX12_keepChosen 107 = .ok (.getfield 62, 3) := by decide +kernel
theorem dX12_keepChosen_110 : decode cX12_keepChosen 110 = .ok (.iload_n 2, 1) := by decide +kernel
theorem dX12_keepChosen_111 : decode cX12_keepChosen 111 = .ok (.iconst 0, 1) := by decide +kernel
theorem dX12_keepChosen_112 : decode cX12_keepChosen 112 = .ok (.iastore, 1) := by decide +kernel
theorem dX12_keepChosen_113 : decode cX12_keepChosen 113 = .ok (.iinc 2 1, 3) := by decide +kernel
theorem dX12_keepChosen_116 : decode cX12_keepChosen 116 = .ok (.goto (-19), 3) := by decide +kernel
theorem dX12_keepChosen_119 : decode cX12_keepChosen 119 = .ok (.return_, 1) := by decide +kernel
set_option maxRecDepth 100000 in
set_option maxHeartbeats 1000000 in
theorem l_X12_keepChosen_97 {p : Program} {l : Launch} {e : Env} {s : State} {m : MethodId} {args : Array Value} {below : List Frame} {meth : Method} {c : Code} {D : va_G} {aC : Nat → ClassId} {b0 fu : Nat} {σ0 τ : tM} {v : Unit}  (C : tCx p l s m args meth c yX12_keepChosen.cls cX12_keepChosen 4 none D aC b0 σ0) (htab : ∀ x ∈ c.exceptionTable.toList, False) (hin : meth.name = yX12_keepChosen.name)  : ∀ (n : Nat) (x0 : Nat) (x2 : Int32) (σ : tM), L_X12_keepChosen_97 b0 fu  n x0 x2 σ = some (v, τ) → tX p l e s m args below meth c 4 2 48 D aC b0 σ0 (.inl none) τ 97 [(0, .ref (x0)), (2, .int (x2))] [] σ := by
  intro n
  induction n with
  | zero => intro x0 x2 σ hm; unfold L_X12_keepChosen_97 at hm; cases hm
  | succ n ih =>
    intro x0 x2 σ hm
    unfold L_X12_keepChosen_97 at hm
    obtain ⟨rc97, hrc⟩ : ∃ z, z = L_X12_keepChosen_97 b0 fu  n := ⟨_, rfl⟩
    replace hm := ltb_e hm hrc
    rw [← hrc] at ih
    have hrc97 := ih
    clear ih hrc
    refine zx_iload_n C dX12_keepChosen_97 1 rfl ?_
    refine zx_aload_n C dX12_keepChosen_98 0 rfl ?_
    obtain ⟨k15, i16, hm⟩ := ckO_e hm
    obtain ⟨a17, h18, hm⟩ := osm_e hm
    refine zx_get (j := 17) C tC_11 k15 i16 ⟨by decide, Or.inl W_6_236⟩ dX12_keepChosen_99 (.ref a17) (rf_s h18) ?_
    obtain ⟨n21, k19, i20, hm⟩ := ckR_e hm
    refine zx_alen C k19 (by decide) i20 dX12_keepChosen_102 ?_
    refine zx_icmp_ge C 119 dX12_keepChosen_103 (by decide) (fun c22 => ?_) (fun c22 => ?_)
    · replace hm := ip_e hm c22
      obtain ⟨rfl, rfl⟩ := ret_e hm
      exact zx_vret C rfl rfl rfl dX12_keepChosen_119
    · replace hm := in_e hm c22
      refine zx_aload_n C dX12_keepChosen_106 0 rfl ?_
      obtain ⟨a23, h24, hm⟩ := osm_e hm
      refine zx_get (j := 17) C tC_11 k15 i16 ⟨by decide, Or.inl W_6_236⟩ dX12_keepChosen_107 (.ref a23) (rf_s h24) ?_
      refine zx_iload_n C dX12_keepChosen_110 1 rfl ?_
      refine zx_iconst (v := 0) C dX12_keepChosen_111 (by decide) ?_
      obtain ⟨n27, k25, i26, hm⟩ := ckR_e hm
      obtain ⟨h28, hm⟩ := ckI_e hm
      refine zx_iast C k25 i26 h28 dX12_keepChosen_112 ?_
      obtain ⟨y29, hy29⟩ : ∃ z : Int32, z = (x2) + Int32.ofInt 1 := ⟨_, rfl⟩
      replace hm := ltb_e hm hy29
      refine zx_iinc C [(2, .int (y29)), (0, .ref (x0))] dX12_keepChosen_113 1 rfl hy29.symm (by decide) rfl ?_
      refine zx_goto C 97 dX12_keepChosen_116 (by decide) ?_
      exact zx_lv [1, 0] [(0, .ref (x0)), (2, .int (y29))] rfl (hrc97 _ _ _ hm)
set_option maxRecDepth 100000 in
set_option maxHeartbeats 1000000 in
theorem j_X12_keepChosen_76 {p : Program} {l : Launch} {e : Env} {s : State} {m : MethodId} {args : Array Value} {below : List Frame} {meth : Method} {c : Code} {D : va_G} {aC : Nat → ClassId} {b0 fu : Nat} {σ0 τ : tM} {v : Unit} {rc31 : Nat → Int32 → Int32 → tM → Option ((Unit) × tM)} (C : tCx p l s m args meth c yX12_keepChosen.cls cX12_keepChosen 4 none D aC b0 σ0) (htab : ∀ x ∈ c.exceptionTable.toList, False) (hin : meth.name = yX12_keepChosen.name) (hrc31 : ∀ (x0 : Nat) (x1 : Int32) (x2 : Int32) (ρ : tM), rc31 x0 x1 x2 ρ = some (v, τ) → tX p l e s m args below meth c 4 2 48 D aC b0 σ0 (.inl none) τ 31 [(0, .ref (x0)), (1, .int (x1)), (2, .int (x2))] [] ρ) {x0 : Nat} {x1 : Int32} {x2 : Int32} {σ : tM} (hm : J_X12_keepChosen_76 b0 fu rc31 x0 x1 x2 σ = some (v, τ)) : tX p l e s m args below meth c 4 2 48 D aC b0 σ0 (.inl none) τ 76 [(0, .ref (x0)), (1, .int (x1)), (2, .int (x2))] [] σ := by
  unfold J_X12_keepChosen_76 at hm
  refine zx_iload_n C dX12_keepChosen_76 1 rfl ?_
  refine zx_iconst (v := 1) C dX12_keepChosen_77 (by decide) ?_
  refine zx_iadd C dX12_keepChosen_78 ?_
  refine zx_sipush (v := 256) C dX12_keepChosen_79 (by decide) ?_
  refine zx_irem C dX12_keepChosen_82 (by decide) ?_
  refine zx_topi (fun y57 hy57 => ?_)
  replace hm := ltb_e hm hy57
  refine zx_istore_n C [(1, .int (y57)), (0, .ref (x0)), (2, .int (x2))] dX12_keepChosen_83 rfl (by decide) rfl ?_
  obtain ⟨y58, hy58⟩ : ∃ z : Int32, z = (x2) + Int32.ofInt 1 := ⟨_, rfl⟩
  replace hm := ltb_e hm hy58
  refine zx_iinc C [(2, .int (y58)), (1, .int (y57)), (0, .ref (x0))] dX12_keepChosen_84 2 rfl hy58.symm (by decide) rfl ?_
  refine zx_goto C 31 dX12_keepChosen_87 (by decide) ?_
  exact zx_lv [2, 1, 0] [(0, .ref (x0)), (1, .int (y57)), (2, .int (y58))] rfl (hrc31 _ _ _ _ hm)
set_option maxRecDepth 100000 in
set_option maxHeartbeats 1000000 in
theorem l_X12_keepChosen_31 {p : Program} {l : Launch} {e : Env} {s : State} {m : MethodId} {args : Array Value} {below : List Frame} {meth : Method} {c : Code} {D : va_G} {aC : Nat → ClassId} {b0 fu : Nat} {σ0 τ : tM} {v : Unit}  (C : tCx p l s m args meth c yX12_keepChosen.cls cX12_keepChosen 4 none D aC b0 σ0) (htab : ∀ x ∈ c.exceptionTable.toList, False) (hin : meth.name = yX12_keepChosen.name)  : ∀ (n : Nat) (x0 : Nat) (x1 : Int32) (x2 : Int32) (σ : tM), L_X12_keepChosen_31 b0 fu  n x0 x1 x2 σ = some (v, τ) → tX p l e s m args below meth c 4 2 48 D aC b0 σ0 (.inl none) τ 31 [(0, .ref (x0)), (1, .int (x1)), (2, .int (x2))] [] σ := by
  intro n
  induction n with
  | zero => intro x0 x1 x2 σ hm; unfold L_X12_keepChosen_31 at hm; cases hm
  | succ n ih =>
    intro x0 x1 x2 σ hm
    unfold L_X12_keepChosen_31 at hm
    obtain ⟨rc31, hrc⟩ : ∃ z, z = L_X12_keepChosen_31 b0 fu  n := ⟨_, rfl⟩
    replace hm := ltb_e hm hrc
    rw [← hrc] at ih
    have hrc31 := ih
    clear ih hrc
    refine zx_iload_n C dX12_keepChosen_31 2 rfl ?_
    refine zx_aload_n C dX12_keepChosen_32 0 rfl ?_
    obtain ⟨k12, i13, hm⟩ := ckO_e hm
    refine zx_get (j := 16) C tC_11 k12 i13 ⟨by decide, Or.inl W_6_235⟩ dX12_keepChosen_33 (.int (tI (σ) (x0) 16)) rfl ?_
    refine zx_icmp_ge C 90 dX12_keepChosen_36 (by decide) (fun c14 => ?_) (fun c14 => ?_)
    · replace hm := ip_e hm c14
      refine zx_aload_n C dX12_keepChosen_90 0 rfl ?_
      refine zx_iconst (v := 0) C dX12_keepChosen_91 (by decide) ?_
      refine zx_put (j := 16) (ρ := sI (σ) (x0) 16 (0)) C tC_11 k12 i13 ⟨by decide, Or.inl W_6_235⟩ rfl rfl rfl (sI_ok (fun _ => rfl)) dX12_keepChosen_92 ?_
      refine zx_iconst (v := 0) C dX12_keepChosen_95 (by decide) ?_
      refine zx_istore_n C [(2, .int (0)), (0, .ref (x0)), (1, .int (x1))] dX12_keepChosen_96 rfl (by decide) rfl ?_
      exact zx_lv [1, 0] [(0, .ref (x0)), (2, .int (0))] rfl (l_X12_keepChosen_97 C htab hin  _ _ _ _ hm)
    · replace hm := in_e hm c14
      refine zx_aload_n C dX12_keepChosen_39 0 rfl ?_
      obtain ⟨a30, h31, hm⟩ := osm_e hm
      refine zx_get (j := 11) C tC_11 k12 i13 ⟨by decide, Or.inl W_6_230⟩ dX12_keepChosen_40 (.ref a30) (rf_s h31) ?_
      refine zx_iload_n C dX12_keepChosen_43 1 rfl ?_
      obtain ⟨n34, k32, i33, hm⟩ := ckR_e hm
      obtain ⟨h35, hm⟩ := ckI_e hm
      refine zx_iald C k32 i33 h35 dX12_keepChosen_44 ?_
      refine zx_topi (fun y36 hy36 => ?_)
      replace hm := ltb_e hm hy36
      refine zx_istore_n C [(3, .int (y36)), (0, .ref (x0)), (1, .int (x1)), (2, .int (x2))] dX12_keepChosen_45 rfl (by decide) rfl ?_
      refine zx_aload_n C dX12_keepChosen_46 1 rfl ?_
      obtain ⟨a37, h38, hm⟩ := osm_e hm
      refine zx_get (j := 54) C tC_11 k12 i13 ⟨by decide, Or.inl W_7_33⟩ dX12_keepChosen_47 (.ref a37) (rf_s h38) ?_
      refine zx_iload_n C dX12_keepChosen_50 0 rfl ?_
      refine zx_dup2_11 C dX12_keepChosen_51 rfl rfl ?_
      obtain ⟨n41, k39, i40, hm⟩ := ckR_e hm
      obtain ⟨h42, hm⟩ := ckI_e hm
      refine zx_iald C k39 i40 h42 dX12_keepChosen_52 ?_
      refine zx_iconst (v := 1) C dX12_keepChosen_53 (by decide) ?_
      refine zx_iadd C dX12_keepChosen_54 ?_
      obtain ⟨h43, hm⟩ := ckI_e hm
      refine zx_iast C k39 i40 h43 dX12_keepChosen_55 ?_
      refine zx_aload_n C dX12_keepChosen_56 1 rfl ?_
      obtain ⟨a44, h45, hm⟩ := osm_e hm
      refine zx_get (j := 54) C tC_11 k12 i13 ⟨by decide, Or.inl W_7_33⟩ dX12_keepChosen_57 (.ref a44) (rf_s h45) ?_
      refine zx_iload_n C dX12_keepChosen_60 0 rfl ?_
      obtain ⟨n48, k46, i47, hm⟩ := ckR_e hm
      obtain ⟨h49, hm⟩ := ckI_e hm
      refine zx_iald C k46 i47 h49 dX12_keepChosen_61 ?_
      refine zx_aload_n C dX12_keepChosen_62 1 rfl ?_
      obtain ⟨a50, h51, hm⟩ := osm_e hm
      refine zx_get (j := 17) C tC_11 k12 i13 ⟨by decide, Or.inl W_6_236⟩ dX12_keepChosen_63 (.ref a50) (rf_s h51) ?_
      refine zx_iload_n C dX12_keepChosen_66 0 rfl ?_
      obtain ⟨n54, k52, i53, hm⟩ := ckR_e hm
      obtain ⟨h55, hm⟩ := ckI_e hm
      refine zx_iald C k52 i53 h55 dX12_keepChosen_67 ?_
      refine zx_icmp_ne C 76 dX12_keepChosen_68 (by decide) (fun c56 => ?_) (fun c56 => ?_)
      · replace hm := in_e hm c56
        exact zx_lv [1, 2, 3] [(0, .ref (x0)), (1, .int (x1)), (2, .int (x2))] rfl (j_X12_keepChosen_76 C htab hin hrc31   hm)
      · replace hm := ip_e hm c56
        refine zx_aload_n C dX12_keepChosen_71 1 rfl ?_
        refine zx_iload_n C dX12_keepChosen_72 2 rfl ?_
        obtain ⟨v60, ρ61, h62, hm⟩ := cll_e hm
        refine zx_callV (σ := sI (σ) (a37) ((y36).toNatClampNeg) ((tI (σ) (a37) ((y36).toNatClampNeg)) + (1))) C [.int (x1)] tC_11 k12 i13 Y_X12_keep W_7_228 W_7_230 Wp_68 (c_X12_keep h62) (by decide) (by decide) rfl (Nat.le_of_ble_eq_true rfl) dX12_keepChosen_73 rfl ?_
        exact zx_lv [1, 2, 3] [(0, .ref (x0)), (1, .int (x1)), (2, .int (x2))] rfl (j_X12_keepChosen_76 C htab hin hrc31   hm)
set_option maxRecDepth 100000 in
set_option maxHeartbeats 1000000 in
theorem l_X12_keepChosen_7 {p : Program} {l : Launch} {e : Env} {s : State} {m : MethodId} {args : Array Value} {below : List Frame} {meth : Method} {c : Code} {D : va_G} {aC : Nat → ClassId} {b0 fu : Nat} {σ0 τ : tM} {v : Unit}  (C : tCx p l s m args meth c yX12_keepChosen.cls cX12_keepChosen 4 none D aC b0 σ0) (htab : ∀ x ∈ c.exceptionTable.toList, False) (hin : meth.name = yX12_keepChosen.name)  : ∀ (n : Nat) (x0 : Nat) (x1 : Int32) (x2 : Int32) (σ : tM), L_X12_keepChosen_7 b0 fu  n x0 x1 x2 σ = some (v, τ) → tX p l e s m args below meth c 4 2 48 D aC b0 σ0 (.inl none) τ 7 [(0, .ref (x0)), (1, .int (x1)), (2, .int (x2))] [] σ := by
  intro n
  induction n with
  | zero => intro x0 x1 x2 σ hm; unfold L_X12_keepChosen_7 at hm; cases hm
  | succ n ih =>
    intro x0 x1 x2 σ hm
    unfold L_X12_keepChosen_7 at hm
    obtain ⟨rc7, hrc⟩ : ∃ z, z = L_X12_keepChosen_7 b0 fu  n := ⟨_, rfl⟩
    replace hm := ltb_e hm hrc
    rw [← hrc] at ih
    have hrc7 := ih
    clear ih hrc
    refine zx_iload_n C dX12_keepChosen_7 2 rfl ?_
    refine zx_aload_n C dX12_keepChosen_8 0 rfl ?_
    obtain ⟨k4, i5, hm⟩ := ckO_e hm
    obtain ⟨a6, h7, hm⟩ := osm_e hm
    refine zx_get (j := 54) C tC_11 k4 i5 ⟨by decide, Or.inl W_7_33⟩ dX12_keepChosen_9 (.ref a6) (rf_s h7) ?_
    obtain ⟨n10, k8, i9, hm⟩ := ckR_e hm
    refine zx_alen C k8 (by decide) i9 dX12_keepChosen_12 ?_
    refine zx_icmp_ge C 29 dX12_keepChosen_13 (by decide) (fun c11 => ?_) (fun c11 => ?_)
    · replace hm := ip_e hm c11
      refine zx_iconst (v := 0) C dX12_keepChosen_29 (by decide) ?_
      refine zx_istore_n C [(2, .int (0)), (0, .ref (x0)), (1, .int (x1))] dX12_keepChosen_30 rfl (by decide) rfl ?_
      exact zx_lv [1, 2, 0] [(0, .ref (x0)), (1, .int (x1)), (2, .int (0))] rfl (l_X12_keepChosen_31 C htab hin  _ _ _ _ _ hm)
    · replace hm := in_e hm c11
      refine zx_aload_n C dX12_keepChosen_16 0 rfl ?_
      obtain ⟨a63, h64, hm⟩ := osm_e hm
      refine zx_get (j := 54) C tC_11 k4 i5 ⟨by decide, Or.inl W_7_33⟩ dX12_keepChosen_17 (.ref a63) (rf_s h64) ?_
      refine zx_iload_n C dX12_keepChosen_20 2 rfl ?_
      refine zx_iconst (v := 0) C dX12_keepChosen_21 (by decide) ?_
      obtain ⟨n67, k65, i66, hm⟩ := ckR_e hm
      obtain ⟨h68, hm⟩ := ckI_e hm
      refine zx_iast C k65 i66 h68 dX12_keepChosen_22 ?_
      obtain ⟨y69, hy69⟩ : ∃ z : Int32, z = (x2) + Int32.ofInt 1 := ⟨_, rfl⟩
      replace hm := ltb_e hm hy69
      refine zx_iinc C [(2, .int (y69)), (0, .ref (x0)), (1, .int (x1))] dX12_keepChosen_23 2 rfl hy69.symm (by decide) rfl ?_
      refine zx_goto C 7 dX12_keepChosen_26 (by decide) ?_
      exact zx_lv [1, 2, 0] [(0, .ref (x0)), (1, .int (x1)), (2, .int (y69))] rfl (hrc7 _ _ _ _ hm)
set_option maxRecDepth 100000 in
set_option maxHeartbeats 1000000 in
theorem c_X12_keepChosen {l : Launch} {D : va_G} {aC : Nat → ClassId} {b0 fu : Nat} {a0 : Nat} {σ τ : tM} {v : Unit} (hm : m_X12_keepChosen b0 fu a0 σ = some (v, τ)) : tMt l D aC b0 yX12_keepChosen (Cond.code yX12_keepChosen cX12_keepChosen 4 none) 2 48 [.ref (a0)] σ (.inl none) τ := by
  unfold m_X12_keepChosen at hm
  obtain ⟨hg, hm⟩ := grw_e hm
  refine tMt_of (n := 0) rfl (Nat.le_of_ble_eq_true rfl) hg ?_
  intro p e s m below meth c C htab hin
  refine zx_lv [0] [(0, .ref (a0))] rfl ?_
  refine zx_aload_n C dX12_keepChosen_0 0 rfl ?_
  obtain ⟨k1, i2, hm⟩ := ckO_e hm
  refine zx_get (j := 15) C tC_11 k1 i2 ⟨by decide, Or.inl W_6_234⟩ dX12_keepChosen_1 (.int (tI (σ) (a0) 15)) rfl ?_
  refine zx_topi (fun y3 hy3 => ?_)
  replace hm := ltb_e hm hy3
  refine zx_istore_n C [(1, .int (y3)), (0, .ref (a0))] dX12_keepChosen_4 rfl (by decide) rfl ?_
  refine zx_iconst (v := 0) C dX12_keepChosen_5 (by decide) ?_
  refine zx_istore_n C [(2, .int (0)), (1, .int (y3)), (0, .ref (a0))] dX12_keepChosen_6 rfl (by decide) rfl ?_
  exact zx_lv [2, 1, 0] [(0, .ref (a0)), (1, .int (y3)), (2, .int (0))] rfl (l_X12_keepChosen_7 C htab hin  _ _ _ _ _ hm)
abbrev cX12_bytesAgain : ByteArray := prog_13_method_65_code
def yX12_bytesAgain : MethodName := ⟨"SyncTreeModel", "bytesAgain", "()V"⟩
theorem Y_X12_bytesAgain : tY yX12_bytesAgain cX12_bytesAgain 5 none 0 := ⟨W_9_113, W_1_14, ⟨by decide +kernel, by decide +kernel⟩, by decide +kernel⟩
theorem dX12_bytesAgain_0 : decode cX12_bytesAgain 0 = .ok (.iconst 0, 1) := by decide +kernel
theorem dX12_bytesAgain_1 : decode cX12_bytesAgain 1 = .ok (.istore_n 1, 1) := by decide +kernel
theorem dX12_bytesAgain_2 : decode cX12_bytesAgain 2 = .ok (.iload_n 1, 1) := by decide +kernel
theorem dX12_bytesAgain_3 : decode cX12_bytesAgain 3 = .ok (.aload_n 0, 1) := by decide +kernel
theorem dX12_bytesAgain_4 : decode cX12_bytesAgain 4 = .ok (.getfield 41, 3) := by decide +kernel
theorem dX12_bytesAgain_7 : decode cX12_bytesAgain 7 = .ok (.if_icmp .ge 115, 3) := by decide +kernel
theorem dX12_bytesAgain_10 : decode cX12_bytesAgain 10 = .ok (.aload_n 0, 1) := by decide +kernel
theorem dX12_bytesAgain_11 : decode cX12_bytesAgain 11 = .ok (.iload_n 1, 1) := by decide +kernel
theorem dX12_bytesAgain_12 : decode cX12_bytesAgain 12 = .ok (.invokevirtual 240, 3) := by decide +kernel
theorem dX12_bytesAgain_15 : decode cX12_bytesAgain 15 = .ok (.istore_n 2, 1) := by decide +kernel
theorem dX12_bytesAgain_16 : decode cX12_bytesAgain 16 = .ok (.aload_n 0, 1) := by decide +kernel
theorem dX12_bytesAgain_17 : decode cX12_bytesAgain 17 = .ok (.getfield 13, 3) := by decide +kernel
theorem dX12_bytesAgain_20 : decode cX12_bytesAgain 20 = .ok (.iload_n 1, 1) := by decide +kernel
theorem dX12_bytesAgain_21 : decode cX12_bytesAgain 21 = .ok (.iconst 0, 1) := by decide +kernel
theorem dX12_bytesAgain_22 : decode cX12_bytesAgain 22 = .ok (.invokestatic 233, 3) := by decide +kernel
theorem dX12_bytesAgain_25 : decode cX12_bytesAgain 25 = .ok (.iaload, 1) := by decide +kernel
theorem dX12_bytesAgain_26 : decode cX12_bytesAgain 26 = .ok (.iconst 1, 1) := by decide +kernel
theorem dX12_bytesAgain_27 : decode cX12_bytesAgain 27 = .ok (.if_icmp .ne 36, 3) := by decide +kernel
theorem dX12_bytesAgain_30 : decode cX12_bytesAgain 30 = .ok (.aload_n 0, 1) := by decide +kernel
theorem dX12_bytesAgain_31 : decode cX12_bytesAgain 31 = .ok (.getfield 68, 3) := by decide +kernel
theorem dX12_bytesAgain_34 : decode cX12_bytesAgain 34 = .ok (.iload_n 2, 1) := by decide +kernel
theorem dX12_bytesAgain_35 : decode cX12_bytesAgain 35 = .ok (.iaload, 1) := by decide +kernel
theorem dX12_bytesAgain_36 : decode cX12_bytesAgain 36 = .ok (.iconst 3, 1) := by decide +kernel
theorem dX12_bytesAgain_37 : decode cX12_bytesAgain 37 = .ok (.if_icmp .ne 26, 3) := by decide +kernel
theorem dX12_bytesAgain_40 : decode cX12_bytesAgain 40 = .ok (.aload_n 0, 1) := by decide +kernel
theorem dX12_bytesAgain_41 : decode cX12_bytesAgain 41 = .ok (.getfield 74, 3) := by decide +kernel
theorem dX12_bytesAgain_44 : decode cX12_bytesAgain 44 = .ok (.iload_n 2, 1) := by decide +kernel
theorem dX12_bytesAgain_45 : decode cX12_bytesAgain 45 = .ok (.iaload, 1) := by decide +kernel
theorem dX12_bytesAgain_46 : decode cX12_bytesAgain 46 = .ok (.aload_n 0, 1) := by decide +kernel
theorem dX12_bytesAgain_47 : decode cX12_bytesAgain 47 = .ok (.getfield 13, 3) := by decide +kernel
theorem dX12_bytesAgain_50 : decode cX12_bytesAgain 50 = .ok (.iload_n 1, 1) := by decide +kernel
theorem dX12_bytesAgain_51 : decode cX12_bytesAgain 51 = .ok (.iconst 1, 1) := by decide +kernel
theorem dX12_bytesAgain_52 : decode cX12_bytesAgain 52 = .ok (.invokestatic 233, 3) := by decide +kernel
theorem dX12_bytesAgain_55 : decode cX12_bytesAgain 55 = .ok (.iaload, 1) := by decide +kernel
theorem dX12_bytesAgain_56 : decode cX12_bytesAgain 56 = .ok (.if_icmp .ne 7, 3) := by decide +kernel
theorem dX12_bytesAgain_59 : decode cX12_bytesAgain 59 = .ok (.iconst 1, 1) := by decide +kernel
theorem dX12_bytesAgain_60 : decode cX12_bytesAgain 60 = .ok (.goto 4, 3) := by decide +kernel
theorem dX12_bytesAgain_63 : decode cX12_bytesAgain 63 = .ok (.iconst 0, 1) := by decide +kernel
theorem dX12_bytesAgain_64 : decode cX12_bytesAgain 64 = .ok (.istore_n 3, 1) := by decide +kernel
theorem dX12_bytesAgain_65 : decode cX12_bytesAgain 65 = .ok (.iconst 0, 1) := by decide +kernel
theorem dX12_bytesAgain_66 : decode cX12_bytesAgain 66 = .ok (.istore 4, 2) := by decide +kernel
theorem dX12_bytesAgain_68 : decode cX12_bytesAgain 68 = .ok (.iload 4, 2) := by decide +kernel
theorem dX12_bytesAgain_70 : decode cX12_bytesAgain 70 = .ok (.sipush 256, 3) := by decide +kernel
theorem dX12_bytesAgain_73 : decode cX12_bytesAgain 73 = .ok (.if_icmp .ge 43, 3) := by decide +kernel
theorem dX12_bytesAgain_76 : decode cX12_bytesAgain 76 = .ok (.aload_n 0, 1) := by decide +kernel
theorem dX12_bytesAgain_77 : decode cX12_bytesAgain 77 = .ok (.getfield 102, 3) := by decide +kernel
theorem dX12_bytesAgain_80 : decode cX12_bytesAgain 80 = .ok (.sipush 256, 3) := by decide +kernel
theorem dX12_bytesAgain_83 : decode cX12_bytesAgain 83 = .ok (.iload_n 1, 1) := by decide +kernel
theorem dX12_bytesAgain_84 : decode cX12_bytesAgain 84 = .ok (.imul, 1) := by decide +kernel
theorem dX12_bytesAgain_85 : decode cX12_bytesAgain 85 = .ok (.iload 4, 2) := by decide +kernel
theorem dX12_bytesAgain_87 : decode cX12_bytesAgain 87 = .ok (.iadd, 1) := by decide +kernel
theorem dX12_bytesAgain_88 : decode cX12_bytesAgain 88 = .ok (.iload_n 3, 1) := by decide +kernel
theorem dX12_bytesAgain_89 : decode cX12_bytesAgain 89 = .ok (.ifCond .eq 19, 3) := by decide +kernel
theorem dX12_bytesAgain_92 : decode cX12_bytesAgain 92 = .ok (.aload_n 0, 1) := by decide +kernel
theorem dX12_bytesAgain_93 : decode cX12_bytesAgain 93 = .ok (.getfield 84, 3) := by decide +kernel
theorem dX12_bytesAgain_96 : decode cX12_bytesAgain 96 = .ok (.sipush 256, 3) := by decide +kernel
theorem dX12_bytesAgain_99 : decode cX12_bytesAgain 99 = .ok (.iload_n 1, 1) := by decide +kernel
theorem dX12_bytesAgain_100 : decode cX12_bytesAgain 100 = .ok (.imul, 1) := by decide +kernel
theorem dX12_bytesAgain_101 : decode cX12_bytesAgain 101 = .ok (.iload 4, 2) := by decide +kernel
theorem dX12_bytesAgain_103 : decode cX12_bytesAgain 103 = .ok (.iadd, 1) := by decide +kernel
theorem dX12_bytesAgain_104 : decode cX12_bytesAgain 104 = .ok (.baload, 1) := by decide +kernel
theorem dX12_bytesAgain_105 : decode cX12_bytesAgain 105 = .ok (.goto 4, 3) := by decide +kernel
theorem dX12_bytesAgain_108 : decode cX12_bytesAgain 108 = .ok (.iconst 0, 1) := by decide +kernel
theorem dX12_bytesAgain_109 : decode cX12_bytesAgain 109 = .ok (.bastore, 1) := by decide +kernel
theorem dX12_bytesAgain_110 : decode cX12_bytesAgain 110 = .ok (.iinc 4 1, 3) := by decide +kernel
theorem dX12_bytesAgain_113 : decode cX12_bytesAgain 113 = .ok (.goto (-45), 3) := by decide +kernel
theorem dX12_bytesAgain_116 : decode cX12_bytesAgain 116 = .ok (.iinc 1 1, 3) := by decide +kernel
theorem dX12_bytesAgain_119 : decode cX12_bytesAgain 119 = .ok (.goto (-117), 3) := by decide +kernel
theorem dX12_bytesAgain_122 : decode cX12_bytesAgain 122 = .ok (.return_, 1) := by decide +kernel
set_option maxRecDepth 100000 in
set_option maxHeartbeats 1000000 in
theorem j_X12_bytesAgain_109 {p : Program} {l : Launch} {e : Env} {s : State} {m : MethodId} {args : Array Value} {below : List Frame} {meth : Method} {c : Code} {D : va_G} {aC : Nat → ClassId} {b0 fu : Nat} {σ0 τ : tM} {v : Unit} {rc2 : Nat → Int32 → tM → Option ((Unit) × tM)} {rc68 : Nat → Int32 → Int32 → Int32 → tM → Option ((Unit) × tM)} (C : tCx p l s m args meth c yX12_bytesAgain.cls cX12_bytesAgain 5 none D aC b0 σ0) (htab : ∀ x ∈ c.exceptionTable.toList, False) (hin : meth.name = yX12_bytesAgain.name) (hrc2 : ∀ (x0 : Nat) (x1 : Int32) (ρ : tM), rc2 x0 x1 ρ = some (v, τ) → tX p l e s m args below meth c 5 1 21 D aC b0 σ0 (.inl none) τ 2 [(0, .ref (x0)), (1, .int (x1))] [] ρ) (hrc68 : ∀ (x0 : Nat) (x1 : Int32) (x3 : Int32) (x4 : Int32) (ρ : tM), rc68 x0 x1 x3 x4 ρ = some (v, τ) → tX p l e s m args below meth c 5 1 21 D aC b0 σ0 (.inl none) τ 68 [(0, .ref (x0)), (1, .int (x1)), (3, .int (x3)), (4, .int (x4))] [] ρ) {x0 : Nat} {x1 : Int32} {x3 : Int32} {x4 : Int32} {s0 : Nat} {s1 : Int32} {s2 : Int32} {σ : tM} (hm : J_X12_bytesAgain_109 b0 fu rc2 rc68 x0 x1 x3 x4 s0 s1 s2 σ = some (v, τ)) : tX p l e s m args below meth c 5 1 21 D aC b0 σ0 (.inl none) τ 109 [(0, .ref (x0)), (1, .int (x1)), (3, .int (x3)), (4, .int (x4))] [.int (s2), .int (s1), .ref (s0)] σ := by
  unfold J_X12_bytesAgain_109 at hm
  obtain ⟨n28, k26, i27, hm⟩ := ckR_e hm
  obtain ⟨h29, hm⟩ := ckI_e hm
  refine zx_bast C k26 i27 h29 dX12_bytesAgain_109 ?_
  obtain ⟨y30, hy30⟩ : ∃ z : Int32, z = (x4) + Int32.ofInt 1 := ⟨_, rfl⟩
  replace hm := ltb_e hm hy30
  refine zx_iinc C [(4, .int (y30)), (0, .ref (x0)), (1, .int (x1)), (3, .int (x3))] dX12_bytesAgain_110 3 rfl hy30.symm (by decide) rfl ?_
  refine zx_goto C 68 dX12_bytesAgain_113 (by decide) ?_
  exact zx_lv [1, 2, 3, 0] [(0, .ref (x0)), (1, .int (x1)), (3, .int (x3)), (4, .int (y30))] rfl (hrc68 _ _ _ _ _ hm)
set_option maxRecDepth 100000 in
set_option maxHeartbeats 1000000 in
theorem l_X12_bytesAgain_68 {p : Program} {l : Launch} {e : Env} {s : State} {m : MethodId} {args : Array Value} {below : List Frame} {meth : Method} {c : Code} {D : va_G} {aC : Nat → ClassId} {b0 fu : Nat} {σ0 τ : tM} {v : Unit} {rc2 : Nat → Int32 → tM → Option ((Unit) × tM)} (C : tCx p l s m args meth c yX12_bytesAgain.cls cX12_bytesAgain 5 none D aC b0 σ0) (htab : ∀ x ∈ c.exceptionTable.toList, False) (hin : meth.name = yX12_bytesAgain.name) (hrc2 : ∀ (x0 : Nat) (x1 : Int32) (ρ : tM), rc2 x0 x1 ρ = some (v, τ) → tX p l e s m args below meth c 5 1 21 D aC b0 σ0 (.inl none) τ 2 [(0, .ref (x0)), (1, .int (x1))] [] ρ) : ∀ (n : Nat) (x0 : Nat) (x1 : Int32) (x3 : Int32) (x4 : Int32) (σ : tM), L_X12_bytesAgain_68 b0 fu rc2 n x0 x1 x3 x4 σ = some (v, τ) → tX p l e s m args below meth c 5 1 21 D aC b0 σ0 (.inl none) τ 68 [(0, .ref (x0)), (1, .int (x1)), (3, .int (x3)), (4, .int (x4))] [] σ := by
  intro n
  induction n with
  | zero => intro x0 x1 x3 x4 σ hm; unfold L_X12_bytesAgain_68 at hm; cases hm
  | succ n ih =>
    intro x0 x1 x3 x4 σ hm
    unfold L_X12_bytesAgain_68 at hm
    obtain ⟨rc68, hrc⟩ : ∃ z, z = L_X12_bytesAgain_68 b0 fu rc2 n := ⟨_, rfl⟩
    replace hm := ltb_e hm hrc
    rw [← hrc] at ih
    have hrc68 := ih
    clear ih hrc
    refine zx_iload C dX12_bytesAgain_68 3 rfl ?_
    refine zx_sipush (v := 256) C dX12_bytesAgain_70 (by decide) ?_
    refine zx_icmp_ge C 116 dX12_bytesAgain_73 (by decide) (fun c19 => ?_) (fun c19 => ?_)
    · replace hm := ip_e hm c19
      obtain ⟨y20, hy20⟩ : ∃ z : Int32, z = (x1) + Int32.ofInt 1 := ⟨_, rfl⟩
      replace hm := ltb_e hm hy20
      refine zx_iinc C [(1, .int (y20)), (0, .ref (x0)), (3, .int (x3)), (4, .int (x4))] dX12_bytesAgain_116 1 rfl hy20.symm (by decide) rfl ?_
      refine zx_goto C 2 dX12_bytesAgain_119 (by decide) ?_
      exact zx_lv [1, 0] [(0, .ref (x0)), (1, .int (y20))] rfl (hrc2 _ _ _ hm)
    · replace hm := in_e hm c19
      refine zx_aload_n C dX12_bytesAgain_76 0 rfl ?_
      obtain ⟨k21, i22, hm⟩ := ckO_e hm
      obtain ⟨a23, h24, hm⟩ := osm_e hm
      refine zx_get (j := 22) C tC_11 k21 i22 ⟨by decide, Or.inl W_7_1⟩ dX12_bytesAgain_77 (.ref a23) (rf_s h24) ?_
      refine zx_sipush (v := 256) C dX12_bytesAgain_80 (by decide) ?_
      refine zx_iload_n C dX12_bytesAgain_83 1 rfl ?_
      refine zx_imul C dX12_bytesAgain_84 ?_
      refine zx_iload C dX12_bytesAgain_85 3 rfl ?_
      refine zx_iadd C dX12_bytesAgain_87 ?_
      refine zx_iload_n C dX12_bytesAgain_88 2 rfl ?_
      refine zx_if_eq C 108 dX12_bytesAgain_89 (by decide) (fun c25 => ?_) (fun c25 => ?_)
      · replace hm := ip_e hm c25
        refine zx_iconst (v := 0) C dX12_bytesAgain_108 (by decide) ?_
        exact zx_lv [0, 1, 2, 3] [(0, .ref (x0)), (1, .int (x1)), (3, .int (x3)), (4, .int (x4))] rfl (j_X12_bytesAgain_109 C htab hin hrc2 hrc68   hm)
      · replace hm := in_e hm c25
        refine zx_aload_n C dX12_bytesAgain_92 0 rfl ?_
        obtain ⟨a31, h32, hm⟩ := osm_e hm
        refine zx_get (j := 10) C tC_11 k21 i22 ⟨by decide, Or.inl W_6_229⟩ dX12_bytesAgain_93 (.ref a31) (rf_s h32) ?_
        refine zx_sipush (v := 256) C dX12_bytesAgain_96 (by decide) ?_
        refine zx_iload_n C dX12_bytesAgain_99 1 rfl ?_
        refine zx_imul C dX12_bytesAgain_100 ?_
        refine zx_iload C dX12_bytesAgain_101 3 rfl ?_
        refine zx_iadd C dX12_bytesAgain_103 ?_
        obtain ⟨n35, k33, i34, hm⟩ := ckR_e hm
        obtain ⟨h36, hm⟩ := ckI_e hm
        refine zx_bald C k33 i34 h36 dX12_bytesAgain_104 ?_
        refine zx_goto C 109 dX12_bytesAgain_105 (by decide) ?_
        exact zx_lv [0, 1, 2, 3] [(0, .ref (x0)), (1, .int (x1)), (3, .int (x3)), (4, .int (x4))] rfl (j_X12_bytesAgain_109 C htab hin hrc2 hrc68   hm)
set_option maxRecDepth 100000 in
set_option maxHeartbeats 1000000 in
theorem j_X12_bytesAgain_64 {p : Program} {l : Launch} {e : Env} {s : State} {m : MethodId} {args : Array Value} {below : List Frame} {meth : Method} {c : Code} {D : va_G} {aC : Nat → ClassId} {b0 fu : Nat} {σ0 τ : tM} {v : Unit} {rc2 : Nat → Int32 → tM → Option ((Unit) × tM)} (C : tCx p l s m args meth c yX12_bytesAgain.cls cX12_bytesAgain 5 none D aC b0 σ0) (htab : ∀ x ∈ c.exceptionTable.toList, False) (hin : meth.name = yX12_bytesAgain.name) (hrc2 : ∀ (x0 : Nat) (x1 : Int32) (ρ : tM), rc2 x0 x1 ρ = some (v, τ) → tX p l e s m args below meth c 5 1 21 D aC b0 σ0 (.inl none) τ 2 [(0, .ref (x0)), (1, .int (x1))] [] ρ) {x0 : Nat} {x1 : Int32} {s0 : Int32} {σ : tM} (hm : J_X12_bytesAgain_64 b0 fu rc2 x0 x1 s0 σ = some (v, τ)) : tX p l e s m args below meth c 5 1 21 D aC b0 σ0 (.inl none) τ 64 [(0, .ref (x0)), (1, .int (x1))] [.int (s0)] σ := by
  unfold J_X12_bytesAgain_64 at hm
  refine zx_istore_n C [(3, .int (s0)), (0, .ref (x0)), (1, .int (x1))] dX12_bytesAgain_64 rfl (by decide) rfl ?_
  refine zx_iconst (v := 0) C dX12_bytesAgain_65 (by decide) ?_
  refine zx_istore C [(4, .int (0)), (3, .int (s0)), (0, .ref (x0)), (1, .int (x1))] dX12_bytesAgain_66 (by decide) rfl ?_
  exact zx_lv [2, 3, 1, 0] [(0, .ref (x0)), (1, .int (x1)), (3, .int (s0)), (4, .int (0))] rfl (l_X12_bytesAgain_68 C htab hin hrc2 _ _ _ _ _ _ hm)
set_option maxRecDepth 100000 in
set_option maxHeartbeats 1000000 in
theorem j_X12_bytesAgain_63 {p : Program} {l : Launch} {e : Env} {s : State} {m : MethodId} {args : Array Value} {below : List Frame} {meth : Method} {c : Code} {D : va_G} {aC : Nat → ClassId} {b0 fu : Nat} {σ0 τ : tM} {v : Unit} {rc2 : Nat → Int32 → tM → Option ((Unit) × tM)} (C : tCx p l s m args meth c yX12_bytesAgain.cls cX12_bytesAgain 5 none D aC b0 σ0) (htab : ∀ x ∈ c.exceptionTable.toList, False) (hin : meth.name = yX12_bytesAgain.name) (hrc2 : ∀ (x0 : Nat) (x1 : Int32) (ρ : tM), rc2 x0 x1 ρ = some (v, τ) → tX p l e s m args below meth c 5 1 21 D aC b0 σ0 (.inl none) τ 2 [(0, .ref (x0)), (1, .int (x1))] [] ρ) {x0 : Nat} {x1 : Int32} {σ : tM} (hm : J_X12_bytesAgain_63 b0 fu rc2 x0 x1 σ = some (v, τ)) : tX p l e s m args below meth c 5 1 21 D aC b0 σ0 (.inl none) τ 63 [(0, .ref (x0)), (1, .int (x1))] [] σ := by
  unfold J_X12_bytesAgain_63 at hm
  refine zx_iconst (v := 0) C dX12_bytesAgain_63 (by decide) ?_
  exact zx_lv [0, 1] [(0, .ref (x0)), (1, .int (x1))] rfl (j_X12_bytesAgain_64 C htab hin hrc2   hm)
set_option maxRecDepth 100000 in
set_option maxHeartbeats 1000000 in
theorem l_X12_bytesAgain_2 {p : Program} {l : Launch} {e : Env} {s : State} {m : MethodId} {args : Array Value} {below : List Frame} {meth : Method} {c : Code} {D : va_G} {aC : Nat → ClassId} {b0 fu : Nat} {σ0 τ : tM} {v : Unit}  (C : tCx p l s m args meth c yX12_bytesAgain.cls cX12_bytesAgain 5 none D aC b0 σ0) (htab : ∀ x ∈ c.exceptionTable.toList, False) (hin : meth.name = yX12_bytesAgain.name)  : ∀ (n : Nat) (x0 : Nat) (x1 : Int32) (σ : tM), L_X12_bytesAgain_2 b0 fu  n x0 x1 σ = some (v, τ) → tX p l e s m args below meth c 5 1 21 D aC b0 σ0 (.inl none) τ 2 [(0, .ref (x0)), (1, .int (x1))] [] σ := by
  intro n
  induction n with
  | zero => intro x0 x1 σ hm; unfold L_X12_bytesAgain_2 at hm; cases hm
  | succ n ih =>
    intro x0 x1 σ hm
    unfold L_X12_bytesAgain_2 at hm
    obtain ⟨rc2, hrc⟩ : ∃ z, z = L_X12_bytesAgain_2 b0 fu  n := ⟨_, rfl⟩
    replace hm := ltb_e hm hrc
    rw [← hrc] at ih
    have hrc2 := ih
    clear ih hrc
    refine zx_iload_n C dX12_bytesAgain_2 1 rfl ?_
    refine zx_aload_n C dX12_bytesAgain_3 0 rfl ?_
    obtain ⟨k1, i2, hm⟩ := ckO_e hm
    refine zx_get (j := 7) C tC_11 k1 i2 ⟨by decide, Or.inl W_6_226⟩ dX12_bytesAgain_4 (.int (tI (σ) (x0) 7)) rfl ?_
    refine zx_icmp_ge C 122 dX12_bytesAgain_7 (by decide) (fun c3 => ?_) (fun c3 => ?_)
    · replace hm := ip_e hm c3
      obtain ⟨rfl, rfl⟩ := ret_e hm
      exact zx_vret C rfl rfl rfl dX12_bytesAgain_122
    · replace hm := in_e hm c3
      refine zx_aload_n C dX12_bytesAgain_10 0 rfl ?_
      refine zx_iload_n C dX12_bytesAgain_11 1 rfl ?_
      obtain ⟨v4, ρ5, h6, hm⟩ := cll_e hm
      refine zx_callV (σ := σ) C [.int (x1)] tC_11 k1 i2 Y_X12_numberOf W_8_123 W_8_125 Wp_100 (c_X12_numberOf h6) (by decide) (by decide) rfl (Nat.le_of_ble_eq_true rfl) dX12_bytesAgain_12 rfl ?_
      refine zx_istore_n C [(2, .int (v4)), (0, .ref (x0)), (1, .int (x1))] dX12_bytesAgain_15 rfl (by decide) rfl ?_
      refine zx_aload_n C dX12_bytesAgain_16 1 rfl ?_
      obtain ⟨k7, i8, hm⟩ := ckO_e hm
      obtain ⟨a9, h10, hm⟩ := osm_e hm
      refine zx_get (j := 1) C tC_11 k7 i8 ⟨by decide, Or.inl W_6_221⟩ dX12_bytesAgain_17 (.ref a9) (rf_s h10) ?_
      refine zx_iload_n C dX12_bytesAgain_20 2 rfl ?_
      refine zx_iconst (v := 0) C dX12_bytesAgain_21 (by decide) ?_
      obtain ⟨v11, ρ12, h13, hm⟩ := cll_e hm
      refine zx_callS (σ := ρ5) C [.int (x1), .int (0)] Y_X12_room W_6_209 W_6_210 (c_X12_room h13) (by decide) (by decide) rfl (Nat.le_of_ble_eq_true rfl) dX12_bytesAgain_22 rfl ?_
      obtain ⟨n16, k14, i15, hm⟩ := ckR_e hm
      obtain ⟨h17, hm⟩ := ckI_e hm
      refine zx_iald C k14 i15 h17 dX12_bytesAgain_25 ?_
      refine zx_iconst (v := 1) C dX12_bytesAgain_26 (by decide) ?_
      refine zx_icmp_ne C 63 dX12_bytesAgain_27 (by decide) (fun c18 => ?_) (fun c18 => ?_)
      · replace hm := in_e hm c18
        exact zx_lv [1, 2] [(0, .ref (x0)), (1, .int (x1))] rfl (j_X12_bytesAgain_63 C htab hin hrc2   hm)
      · replace hm := ip_e hm c18
        refine zx_aload_n C dX12_bytesAgain_30 1 rfl ?_
        obtain ⟨k37, i38, hm⟩ := ckO_e hm
        obtain ⟨a39, h40, hm⟩ := osm_e hm
        refine zx_get (j := 8) C tC_11 k37 i38 ⟨by decide, Or.inl W_6_227⟩ dX12_bytesAgain_31 (.ref a39) (rf_s h40) ?_
        refine zx_iload_n C dX12_bytesAgain_34 0 rfl ?_
        obtain ⟨n43, k41, i42, hm⟩ := ckR_e hm
        obtain ⟨h44, hm⟩ := ckI_e hm
        refine zx_iald C k41 i42 h44 dX12_bytesAgain_35 ?_
        refine zx_iconst (v := 3) C dX12_bytesAgain_36 (by decide) ?_
        refine zx_icmp_ne C 63 dX12_bytesAgain_37 (by decide) (fun c45 => ?_) (fun c45 => ?_)
        · replace hm := in_e hm c45
          exact zx_lv [1, 2] [(0, .ref (x0)), (1, .int (x1))] rfl (j_X12_bytesAgain_63 C htab hin hrc2   hm)
        · replace hm := ip_e hm c45
          refine zx_aload_n C dX12_bytesAgain_40 1 rfl ?_
          obtain ⟨a46, h47, hm⟩ := osm_e hm
          refine zx_get (j := 9) C tC_11 k37 i38 ⟨by decide, Or.inl W_6_228⟩ dX12_bytesAgain_41 (.ref a46) (rf_s h47) ?_
          refine zx_iload_n C dX12_bytesAgain_44 0 rfl ?_
          obtain ⟨n50, k48, i49, hm⟩ := ckR_e hm
          obtain ⟨h51, hm⟩ := ckI_e hm
          refine zx_iald C k48 i49 h51 dX12_bytesAgain_45 ?_
          refine zx_aload_n C dX12_bytesAgain_46 1 rfl ?_
          obtain ⟨a52, h53, hm⟩ := osm_e hm
          refine zx_get (j := 1) C tC_11 k37 i38 ⟨by decide, Or.inl W_6_221⟩ dX12_bytesAgain_47 (.ref a52) (rf_s h53) ?_
          refine zx_iload_n C dX12_bytesAgain_50 2 rfl ?_
          refine zx_iconst (v := 1) C dX12_bytesAgain_51 (by decide) ?_
          obtain ⟨v54, ρ55, h56, hm⟩ := cll_e hm
          refine zx_callS (σ := ρ12) C [.int (x1), .int (1)] Y_X12_room W_6_209 W_6_210 (c_X12_room h56) (by decide) (by decide) rfl (Nat.le_of_ble_eq_true rfl) dX12_bytesAgain_52 rfl ?_
          obtain ⟨n59, k57, i58, hm⟩ := ckR_e hm
          obtain ⟨h60, hm⟩ := ckI_e hm
          refine zx_iald C k57 i58 h60 dX12_bytesAgain_55 ?_
          refine zx_icmp_ne C 63 dX12_bytesAgain_56 (by decide) (fun c61 => ?_) (fun c61 => ?_)
          · replace hm := in_e hm c61
            exact zx_lv [1, 2] [(0, .ref (x0)), (1, .int (x1))] rfl (j_X12_bytesAgain_63 C htab hin hrc2   hm)
          · replace hm := ip_e hm c61
            refine zx_iconst (v := 1) C dX12_bytesAgain_59 (by decide) ?_
            refine zx_goto C 64 dX12_bytesAgain_60 (by decide) ?_
            exact zx_lv [1, 2] [(0, .ref (x0)), (1, .int (x1))] rfl (j_X12_bytesAgain_64 C htab hin hrc2   hm)
set_option maxRecDepth 100000 in
set_option maxHeartbeats 1000000 in
theorem c_X12_bytesAgain {l : Launch} {D : va_G} {aC : Nat → ClassId} {b0 fu : Nat} {a0 : Nat} {σ τ : tM} {v : Unit} (hm : m_X12_bytesAgain b0 fu a0 σ = some (v, τ)) : tMt l D aC b0 yX12_bytesAgain (Cond.code yX12_bytesAgain cX12_bytesAgain 5 none) 1 21 [.ref (a0)] σ (.inl none) τ := by
  unfold m_X12_bytesAgain at hm
  obtain ⟨hg, hm⟩ := grw_e hm
  refine tMt_of (n := 0) rfl (Nat.le_of_ble_eq_true rfl) hg ?_
  intro p e s m below meth c C htab hin
  refine zx_lv [0] [(0, .ref (a0))] rfl ?_
  refine zx_iconst (v := 0) C dX12_bytesAgain_0 (by decide) ?_
  refine zx_istore_n C [(1, .int (0)), (0, .ref (a0))] dX12_bytesAgain_1 rfl (by decide) rfl ?_
  exact zx_lv [1, 0] [(0, .ref (a0)), (1, .int (0))] rfl (l_X12_bytesAgain_2 C htab hin  _ _ _ _ hm)
