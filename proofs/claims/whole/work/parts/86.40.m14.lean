abbrev cX12_commit : ByteArray := prog_13_method_21_code
def yX12_commit : MethodName := ⟨"SyncTreeModel", "commit", "()V"⟩
theorem Y_X12_commit : tY yX12_commit cX12_commit 3 none 0 := ⟨W_7_199, W_1_14, ⟨by decide +kernel, by decide +kernel⟩, by decide +kernel⟩
theorem dX12_commit_0 : decode cX12_commit 0 = .ok (.aload_n 0, 1) := by decide +kernel
theorem dX12_commit_1 : decode cX12_commit 1 = .ok (.invokevirtual 171, 3) := by decide +kernel
theorem dX12_commit_4 : decode cX12_commit 4 = .ok (.istore_n 1, 1) := by decide +kernel
theorem dX12_commit_5 : decode cX12_commit 5 = .ok (.iload_n 1, 1) := by decide +kernel
theorem dX12_commit_6 : decode cX12_commit 6 = .ok (.aload_n 0, 1) := by decide +kernel
theorem dX12_commit_7 : decode cX12_commit 7 = .ok (.invokevirtual 174, 3) := by decide +kernel
theorem dX12_commit_10 : decode cX12_commit 10 = .ok (.if_icmp .le 7, 3) := by decide +kernel
theorem dX12_commit_13 : decode cX12_commit 13 = .ok (.aload_n 0, 1) := by decide +kernel
theorem dX12_commit_14 : decode cX12_commit 14 = .ok (.invokevirtual 177, 3) := by decide +kernel
theorem dX12_commit_17 : decode cX12_commit 17 = .ok (.aload_n 0, 1) := by decide +kernel
theorem dX12_commit_18 : decode cX12_commit 18 = .ok (.iload_n 1, 1) := by decide +kernel
theorem dX12_commit_19 : decode cX12_commit 19 = .ok (.invokevirtual 180, 3) := by decide +kernel
theorem dX12_commit_22 : decode cX12_commit 22 = .ok (.iconst 0, 1) := by decide +kernel
theorem dX12_commit_23 : decode cX12_commit 23 = .ok (.istore_n 2, 1) := by decide +kernel
theorem dX12_commit_24 : decode cX12_commit 24 = .ok (.iload_n 2, 1) := by decide +kernel
theorem dX12_commit_25 : decode cX12_commit 25 = .ok (.iload_n 1, 1) := by decide +kernel
theorem dX12_commit_26 : decode cX12_commit 26 = .ok (.if_icmp .ge 32, 3) := by decide +kernel
theorem dX12_commit_29 : decode cX12_commit 29 = .ok (.aload_n 0, 1) := by decide +kernel
theorem dX12_commit_30 : decode cX12_commit 30 = .ok (.bipush 34, 2) := by decide +kernel
theorem dX12_commit_32 : decode cX12_commit 32 = .ok (.aload_n 0, 1) := by decide +kernel
theorem dX12_commit_33 : decode cX12_commit 33 = .ok (.getfield 161, 3) := by decide +kernel
theorem dX12_commit_36 : decode cX12_commit 36 = .ok (.iload_n 2, 1) := by decide +kernel
theorem dX12_commit_37 : decode cX12_commit 37 = .ok (.iadd, 1) := by decide +kernel
theorem dX12_commit_38 : decode cX12_commit 38 = .ok (.aload_n 0, 1) := by decide +kernel
theorem dX12_commit_39 : decode cX12_commit 39 = .ok (.getfield 38, 3) := by decide +kernel
theorem dX12_commit_42 : decode cX12_commit 42 = .ok (.irem, 1) := by decide +kernel
theorem dX12_commit_43 : decode cX12_commit 43 = .ok (.iadd, 1) := by decide +kernel
theorem dX12_commit_44 : decode cX12_commit 44 = .ok (.iconst 2, 1) := by decide +kernel
theorem dX12_commit_45 : decode cX12_commit 45 = .ok (.aload_n 0, 1) := by decide +kernel
theorem dX12_commit_46 : decode cX12_commit 46 = .ok (.getfield 158, 3) := by decide +kernel
theorem dX12_commit_49 : decode cX12_commit 49 = .ok (.invokevirtual 183, 3) := by decide +kernel
theorem dX12_commit_52 : decode cX12_commit 52 = .ok (.iinc 2 1, 3) := by decide +kernel
theorem dX12_commit_55 : decode cX12_commit 55 = .ok (.goto (-31), 3) := by decide +kernel
theorem dX12_commit_58 : decode cX12_commit 58 = .ok (.aload_n 0, 1) := by decide +kernel
theorem dX12_commit_59 : decode cX12_commit 59 = .ok (.aload_n 0, 1) := by decide +kernel
theorem dX12_commit_60 : decode cX12_commit 60 = .ok (.getfield 161, 3) := by decide +kernel
theorem dX12_commit_63 : decode cX12_commit 63 = .ok (.iload_n 1, 1) := by decide +kernel
theorem dX12_commit_64 : decode cX12_commit 64 = .ok (.iadd, 1) := by decide +kernel
theorem dX12_commit_65 : decode cX12_commit 65 = .ok (.aload_n 0, 1) := by decide +kernel
theorem dX12_commit_66 : decode cX12_commit 66 = .ok (.getfield 38, 3) := by decide +kernel
theorem dX12_commit_69 : decode cX12_commit 69 = .ok (.irem, 1) := by decide +kernel
theorem dX12_commit_70 : decode cX12_commit 70 = .ok (.putfield 161, 3) := by decide +kernel
theorem dX12_commit_73 : decode cX12_commit 73 = .ok (.aload_n 0, 1) := by decide +kernel
theorem dX12_commit_74 : decode cX12_commit 74 = .ok (.dup, 1) := by decide +kernel
theorem dX12_commit_75 : decode cX12_commit 75 = .ok (.getfield 122, 3) := by decide +kernel
theorem dX12_commit_78 : decode cX12_commit 78 = .ok (.iconst 1, 1) := by decide +kernel
theorem dX12_commit_79 : decode cX12_commit 79 = .ok (.iadd, 1) := by decide +kernel
theorem dX12_commit_80 : decode cX12_commit 80 = .ok (.putfield 122, 3) := by decide +kernel
theorem dX12_commit_83 : decode cX12_commit 83 = .ok (.aload_n 0, 1) := by decide +kernel
theorem dX12_commit_84 : decode cX12_commit 84 = .ok (.invokevirtual 187, 3) := by decide +kernel
theorem dX12_commit_87 : decode cX12_commit 87 = .ok (.iconst 0, 1) := by decide +kernel
theorem dX12_commit_88 : decode cX12_commit 88 = .ok (.istore_n 2, 1) := by decide +kernel
theorem dX12_commit_89 : decode cX12_commit 89 = .ok (.iload_n 2, 1) := by decide +kernel
theorem dX12_commit_90 : decode cX12_commit 90 = .ok (.aload_n 0, 1) := by decide +kernel
theorem dX12_commit_91 : decode cX12_commit 91 = .ok (.getfield 41, 3) := by decide +kernel
theorem dX12_commit_94 : decode cX12_commit 94 = .ok (.if_icmp .ge 31, 3) := by decide +kernel
theorem dX12_commit_97 : decode cX12_commit 97 = .ok (.aload_n 0, 1) := by decide +kernel
theorem dX12_commit_98 : decode cX12_commit 98 = .ok (.getfield 190, 3) := by decide +kernel
theorem dX12_commit_101 : decode cX12_commit 101 = .ok (.iload_n 2, 1) := by decide +kernel
theorem dX12_commit_102 : decode cX12_commit 102 = .ok (.iaload, 1) := by decide +kernel
theorem dX12_commit_103 : decode cX12_commit 103 = .ok (.iconst 1, 1) := by decide +kernel
theorem dX12_commit_104 : decode cX12_commit 104 = .ok (.if_icmp .ne 15, 3) := by decide +kernel
theorem dX12_commit_107 : decode cX12_commit 107 = .ok (.aload_n 0, 1) := by decide +kernel
theorem dX12_commit_108 : decode cX12_commit 108 = .ok (.getfield 190, 3) := by decide +kernel
theorem dX12_commit_111 : decode cX12_commit 111 = .ok (.iload_n 2, 1) := by decide +kernel
theorem dX12_commit_112 : decode cX12_commit 112 = .ok (.iconst 1, 1) := by decide +kernel
theorem dX12_commit_113 : decode cX12_commit 113 = .ok (.aload_n 0, 1) := by decide +kernel
theorem dX12_commit_114 : decode cX12_commit 114 = .ok (.getfield 122, 3) := by decide +kernel
theorem dX12_commit_117 : decode cX12_commit 117 = .ok (.iadd, 1) := by decide +kernel
theorem dX12_commit_118 : decode cX12_commit 118 = .ok (.iastore, 1) := by decide +kernel
theorem dX12_commit_119 : decode cX12_commit 119 = .ok (.iinc 2 1, 3) := by decide +kernel
theorem dX12_commit_122 : decode cX12_commit 122 = .ok (.goto (-33), 3) := by decide +kernel
theorem dX12_commit_125 : decode cX12_commit 125 = .ok (.return_, 1) := by decide +kernel
set_option maxRecDepth 100000 in
set_option maxHeartbeats 1000000 in
theorem j_X12_commit_119 {p : Program} {l : Launch} {e : Env} {s : State} {m : MethodId} {args : Array Value} {below : List Frame} {meth : Method} {c : Code} {D : va_G} {aC : Nat → ClassId} {b0 fu : Nat} {σ0 τ : tM} {v : (Unit) ⊕ Unit} {rc89 : Nat → Int32 → tM → Option (((Unit) ⊕ Unit) × tM)} (C : tCx p l s m args meth c yX12_commit.cls cX12_commit 3 none D aC b0 σ0) (htab : ∀ x ∈ c.exceptionTable.toList, False) (hin : meth.name = yX12_commit.name) (hrc89 : ∀ (x0 : Nat) (x2 : Int32) (ρ : tM), rc89 x0 x2 ρ = some (v, τ) → tX p l e s m args below meth c 3 6 138 D aC b0 σ0 (rxV "SyncTreeModel$Off" v) τ 89 [(0, .ref (x0)), (2, .int (x2))] [] ρ) {x0 : Nat} {x2 : Int32} {σ : tM} (hm : J_X12_commit_119 b0 fu rc89 x0 x2 σ = some (v, τ)) : tX p l e s m args below meth c 3 6 138 D aC b0 σ0 (rxV "SyncTreeModel$Off" v) τ 119 [(0, .ref (x0)), (2, .int (x2))] [] σ := by
  unfold J_X12_commit_119 at hm
  obtain ⟨y33, hy33⟩ : ∃ z : Int32, z = (x2) + Int32.ofInt 1 := ⟨_, rfl⟩
  replace hm := ltb_e hm hy33
  refine zx_iinc C [(2, .int (y33)), (0, .ref (x0))] dX12_commit_119 1 rfl hy33.symm (by decide) rfl ?_
  refine zx_goto C 89 dX12_commit_122 (by decide) ?_
  exact zx_lv [1, 0] [(0, .ref (x0)), (2, .int (y33))] rfl (hrc89 _ _ _ hm)
set_option maxRecDepth 100000 in
set_option maxHeartbeats 1000000 in
theorem l_X12_commit_89 {p : Program} {l : Launch} {e : Env} {s : State} {m : MethodId} {args : Array Value} {below : List Frame} {meth : Method} {c : Code} {D : va_G} {aC : Nat → ClassId} {b0 fu : Nat} {σ0 τ : tM} {v : (Unit) ⊕ Unit}  (C : tCx p l s m args meth c yX12_commit.cls cX12_commit 3 none D aC b0 σ0) (htab : ∀ x ∈ c.exceptionTable.toList, False) (hin : meth.name = yX12_commit.name)  : ∀ (n : Nat) (x0 : Nat) (x2 : Int32) (σ : tM), L_X12_commit_89 b0 fu  n x0 x2 σ = some (v, τ) → tX p l e s m args below meth c 3 6 138 D aC b0 σ0 (rxV "SyncTreeModel$Off" v) τ 89 [(0, .ref (x0)), (2, .int (x2))] [] σ := by
  intro n
  induction n with
  | zero => intro x0 x2 σ hm; unfold L_X12_commit_89 at hm; cases hm
  | succ n ih =>
    intro x0 x2 σ hm
    unfold L_X12_commit_89 at hm
    obtain ⟨rc89, hrc⟩ : ∃ z, z = L_X12_commit_89 b0 fu  n := ⟨_, rfl⟩
    replace hm := ltb_e hm hrc
    rw [← hrc] at ih
    have hrc89 := ih
    clear ih hrc
    refine zx_iload_n C dX12_commit_89 1 rfl ?_
    refine zx_aload_n C dX12_commit_90 0 rfl ?_
    obtain ⟨k23, i24, hm⟩ := ckO_e hm
    refine zx_get (j := 7) C tC_11 k23 i24 ⟨by decide, Or.inl W_6_226⟩ dX12_commit_91 (.int (tI (σ) (x0) 7)) rfl ?_
    refine zx_icmp_ge C 125 dX12_commit_94 (by decide) (fun c25 => ?_) (fun c25 => ?_)
    · replace hm := ip_e hm c25
      obtain ⟨rfl, rfl⟩ := ret_e hm
      exact zx_vret C rfl rfl rfl dX12_commit_125
    · replace hm := in_e hm c25
      refine zx_aload_n C dX12_commit_97 0 rfl ?_
      obtain ⟨a26, h27, hm⟩ := osm_e hm
      refine zx_get (j := 24) C tC_11 k23 i24 ⟨by decide, Or.inl W_7_3⟩ dX12_commit_98 (.ref a26) (rf_s h27) ?_
      refine zx_iload_n C dX12_commit_101 1 rfl ?_
      obtain ⟨n30, k28, i29, hm⟩ := ckR_e hm
      obtain ⟨h31, hm⟩ := ckI_e hm
      refine zx_iald C k28 i29 h31 dX12_commit_102 ?_
      refine zx_iconst (v := 1) C dX12_commit_103 (by decide) ?_
      refine zx_icmp_ne C 119 dX12_commit_104 (by decide) (fun c32 => ?_) (fun c32 => ?_)
      · replace hm := in_e hm c32
        exact zx_lv [0, 1] [(0, .ref (x0)), (2, .int (x2))] rfl (j_X12_commit_119 C htab hin hrc89   hm)
      · replace hm := ip_e hm c32
        refine zx_aload_n C dX12_commit_107 0 rfl ?_
        obtain ⟨a34, h35, hm⟩ := osm_e hm
        refine zx_get (j := 24) C tC_11 k23 i24 ⟨by decide, Or.inl W_7_3⟩ dX12_commit_108 (.ref a34) (rf_s h35) ?_
        refine zx_iload_n C dX12_commit_111 1 rfl ?_
        refine zx_iconst (v := 1) C dX12_commit_112 (by decide) ?_
        refine zx_aload_n C dX12_commit_113 0 rfl ?_
        refine zx_get (j := 28) C tC_11 k23 i24 ⟨by decide, Or.inl W_7_7⟩ dX12_commit_114 (.int (tI (σ) (x0) 28)) rfl ?_
        refine zx_iadd C dX12_commit_117 ?_
        obtain ⟨n38, k36, i37, hm⟩ := ckR_e hm
        obtain ⟨h39, hm⟩ := ckI_e hm
        refine zx_iast C k36 i37 h39 dX12_commit_118 ?_
        exact zx_lv [0, 1] [(0, .ref (x0)), (2, .int (x2))] rfl (j_X12_commit_119 C htab hin hrc89   hm)
set_option maxRecDepth 100000 in
set_option maxHeartbeats 1000000 in
theorem l_X12_commit_24 {p : Program} {l : Launch} {e : Env} {s : State} {m : MethodId} {args : Array Value} {below : List Frame} {meth : Method} {c : Code} {D : va_G} {aC : Nat → ClassId} {b0 fu : Nat} {σ0 τ : tM} {v : (Unit) ⊕ Unit}  (C : tCx p l s m args meth c yX12_commit.cls cX12_commit 3 none D aC b0 σ0) (htab : ∀ x ∈ c.exceptionTable.toList, False) (hin : meth.name = yX12_commit.name)  : ∀ (n : Nat) (x0 : Nat) (x1 : Int32) (x2 : Int32) (σ : tM), L_X12_commit_24 b0 fu  n x0 x1 x2 σ = some (v, τ) → tX p l e s m args below meth c 3 6 138 D aC b0 σ0 (rxV "SyncTreeModel$Off" v) τ 24 [(0, .ref (x0)), (1, .int (x1)), (2, .int (x2))] [] σ := by
  intro n
  induction n with
  | zero => intro x0 x1 x2 σ hm; unfold L_X12_commit_24 at hm; cases hm
  | succ n ih =>
    intro x0 x1 x2 σ hm
    unfold L_X12_commit_24 at hm
    obtain ⟨rc24, hrc⟩ : ∃ z, z = L_X12_commit_24 b0 fu  n := ⟨_, rfl⟩
    replace hm := ltb_e hm hrc
    rw [← hrc] at ih
    have hrc24 := ih
    clear ih hrc
    refine zx_iload_n C dX12_commit_24 2 rfl ?_
    refine zx_iload_n C dX12_commit_25 1 rfl ?_
    refine zx_icmp_ge C 58 dX12_commit_26 (by decide) (fun c17 => ?_) (fun c17 => ?_)
    · replace hm := ip_e hm c17
      refine zx_aload_n C dX12_commit_58 0 rfl ?_
      refine zx_aload_n C dX12_commit_59 0 rfl ?_
      obtain ⟨k18, i19, hm⟩ := ckO_e hm
      refine zx_get (j := 33) C tC_11 k18 i19 ⟨by decide, Or.inl W_7_12⟩ dX12_commit_60 (.int (tI (σ) (x0) 33)) rfl ?_
      refine zx_iload_n C dX12_commit_63 1 rfl ?_
      refine zx_iadd C dX12_commit_64 ?_
      refine zx_aload_n C dX12_commit_65 0 rfl ?_
      refine zx_get (j := 6) C tC_11 k18 i19 ⟨by decide, Or.inl W_6_225⟩ dX12_commit_66 (.int (tI (σ) (x0) 6)) rfl ?_
      obtain ⟨h40, hm⟩ := ckD_e hm
      refine zx_irem C dX12_commit_69 h40 ?_
      refine zx_put (j := 33) (ρ := sI (σ) (x0) 33 (((tI (σ) (x0) 33) + (x1)) - ((tI (σ) (x0) 33) + (x1)) / (tI (σ) (x0) 6) * (tI (σ) (x0) 6))) C tC_11 k18 i19 ⟨by decide, Or.inl W_7_12⟩ rfl rfl rfl (sI_ok (fun _ => rfl)) dX12_commit_70 ?_
      refine zx_aload_n C dX12_commit_73 0 rfl ?_
      refine zx_dup C dX12_commit_74 rfl ?_
      refine zx_get (j := 28) C tC_11 k18 i19 ⟨by decide, Or.inl W_7_7⟩ dX12_commit_75 (.int (tI (sI (σ) (x0) 33 (((tI (σ) (x0) 33) + (x1)) - ((tI (σ) (x0) 33) + (x1)) / (tI (σ) (x0) 6) * (tI (σ) (x0) 6))) (x0) 28)) rfl ?_
      refine zx_iconst (v := 1) C dX12_commit_78 (by decide) ?_
      refine zx_iadd C dX12_commit_79 ?_
      refine zx_put (j := 28) (ρ := sI (sI (σ) (x0) 33 (((tI (σ) (x0) 33) + (x1)) - ((tI (σ) (x0) 33) + (x1)) / (tI (σ) (x0) 6) * (tI (σ) (x0) 6))) (x0) 28 ((tI (sI (σ) (x0) 33 (((tI (σ) (x0) 33) + (x1)) - ((tI (σ) (x0) 33) + (x1)) / (tI (σ) (x0) 6) * (tI (σ) (x0) 6))) (x0) 28) + (1))) C tC_11 k18 i19 ⟨by decide, Or.inl W_7_7⟩ rfl rfl rfl (sI_ok (fun _ => rfl)) dX12_commit_80 ?_
      refine zx_aload_n C dX12_commit_83 0 rfl ?_
      obtain ⟨v20, ρ21, h22, hm⟩ := cll_e hm
      refine zx_callV (σ := sI (sI (σ) (x0) 33 (((tI (σ) (x0) 33) + (x1)) - ((tI (σ) (x0) 33) + (x1)) / (tI (σ) (x0) 6) * (tI (σ) (x0) 6))) (x0) 28 ((tI (sI (σ) (x0) 33 (((tI (σ) (x0) 33) + (x1)) - ((tI (σ) (x0) 33) + (x1)) / (tI (σ) (x0) 6) * (tI (σ) (x0) 6))) (x0) 28) + (1))) C [] tC_11 k18 i19 Y_X12_emptyGroup W_6_212 W_6_214 Wp_54 (c_X12_emptyGroup h22) (by decide) (by decide) rfl (Nat.le_of_ble_eq_true rfl) dX12_commit_84 rfl ?_
      refine zx_iconst (v := 0) C dX12_commit_87 (by decide) ?_
      refine zx_istore_n C [(2, .int (0)), (0, .ref (x0)), (1, .int (x1))] dX12_commit_88 rfl (by decide) rfl ?_
      exact zx_lv [1, 0] [(0, .ref (x0)), (2, .int (0))] rfl (l_X12_commit_89 C htab hin  _ _ _ _ hm)
    · replace hm := in_e hm c17
      refine zx_aload_n C dX12_commit_29 0 rfl ?_
      refine zx_bipush (v := 34) C dX12_commit_30 (by decide) ?_
      refine zx_aload_n C dX12_commit_32 0 rfl ?_
      obtain ⟨k41, i42, hm⟩ := ckO_e hm
      refine zx_get (j := 33) C tC_11 k41 i42 ⟨by decide, Or.inl W_7_12⟩ dX12_commit_33 (.int (tI (σ) (x0) 33)) rfl ?_
      refine zx_iload_n C dX12_commit_36 2 rfl ?_
      refine zx_iadd C dX12_commit_37 ?_
      refine zx_aload_n C dX12_commit_38 0 rfl ?_
      refine zx_get (j := 6) C tC_11 k41 i42 ⟨by decide, Or.inl W_6_225⟩ dX12_commit_39 (.int (tI (σ) (x0) 6)) rfl ?_
      obtain ⟨h48, hm⟩ := ckD_e hm
      refine zx_irem C dX12_commit_42 h48 ?_
      refine zx_iadd C dX12_commit_43 ?_
      refine zx_iconst (v := 2) C dX12_commit_44 (by decide) ?_
      refine zx_aload_n C dX12_commit_45 0 rfl ?_
      refine zx_get (j := 34) C tC_11 k41 i42 ⟨by decide, Or.inl W_7_13⟩ dX12_commit_46 (.int (tI (σ) (x0) 34)) rfl ?_
      rcases clx_e hm with ⟨v43, ρ44, h45, hm⟩ | ⟨ρ44, h45, hm⟩
      · refine zx_callV (σ := σ) C [.int ((34) + (((tI (σ) (x0) 33) + (x2)) - ((tI (σ) (x0) 33) + (x2)) / (tI (σ) (x0) 6) * (tI (σ) (x0) 6))), .int (2), .int (tI (σ) (x0) 34)] tC_11 k41 i42 Y_X12_version W_7_237 W_7_239 Wp_70 (c_X12_version h45) (by decide) (by decide) rfl (Nat.le_of_ble_eq_true rfl) dX12_commit_49 rfl ?_
        obtain ⟨y46, hy46⟩ : ∃ z : Int32, z = (x2) + Int32.ofInt 1 := ⟨_, rfl⟩
        replace hm := ltb_e hm hy46
        refine zx_iinc C [(2, .int (y46)), (0, .ref (x0)), (1, .int (x1))] dX12_commit_52 2 rfl hy46.symm (by decide) rfl ?_
        refine zx_goto C 24 dX12_commit_55 (by decide) ?_
        exact zx_lv [1, 2, 0] [(0, .ref (x0)), (1, .int (x1)), (2, .int (y46))] rfl (hrc24 _ _ _ _ hm)
      · cases hm
        exact zx_outV (σ := σ) C htab [.int ((34) + (((tI (σ) (x0) 33) + (x2)) - ((tI (σ) (x0) 33) + (x2)) / (tI (σ) (x0) 6) * (tI (σ) (x0) 6))), .int (2), .int (tI (σ) (x0) 34)] tC_11 k41 i42 Y_X12_version W_7_237 W_7_239 Wp_70 (c_X12_version h45) rfl (by decide) (by decide) rfl (Nat.le_of_ble_eq_true rfl) dX12_commit_49 rfl
set_option maxRecDepth 100000 in
set_option maxHeartbeats 1000000 in
theorem j_X12_commit_17 {p : Program} {l : Launch} {e : Env} {s : State} {m : MethodId} {args : Array Value} {below : List Frame} {meth : Method} {c : Code} {D : va_G} {aC : Nat → ClassId} {b0 fu : Nat} {σ0 τ : tM} {v : (Unit) ⊕ Unit}  (C : tCx p l s m args meth c yX12_commit.cls cX12_commit 3 none D aC b0 σ0) (htab : ∀ x ∈ c.exceptionTable.toList, False) (hin : meth.name = yX12_commit.name)  {x0 : Nat} {x1 : Int32} {σ : tM} (hm : J_X12_commit_17 b0 fu  x0 x1 σ = some (v, τ)) : tX p l e s m args below meth c 3 6 138 D aC b0 σ0 (rxV "SyncTreeModel$Off" v) τ 17 [(0, .ref (x0)), (1, .int (x1))] [] σ := by
  unfold J_X12_commit_17 at hm
  refine zx_aload_n C dX12_commit_17 0 rfl ?_
  refine zx_iload_n C dX12_commit_18 1 rfl ?_
  obtain ⟨k12, i13, hm⟩ := ckO_e hm
  obtain ⟨v14, ρ15, h16, hm⟩ := cll_e hm
  refine zx_callV (σ := σ) C [.int (x1)] tC_11 k12 i13 Y_X12_record W_8_9 W_8_11 Wp_73 (c_X12_record h16) (by decide) (by decide) rfl (Nat.le_of_ble_eq_true rfl) dX12_commit_19 rfl ?_
  refine zx_iconst (v := 0) C dX12_commit_22 (by decide) ?_
  refine zx_istore_n C [(2, .int (0)), (0, .ref (x0)), (1, .int (x1))] dX12_commit_23 rfl (by decide) rfl ?_
  exact zx_lv [1, 2, 0] [(0, .ref (x0)), (1, .int (x1)), (2, .int (0))] rfl (l_X12_commit_24 C htab hin  _ _ _ _ _ hm)
set_option maxRecDepth 100000 in
set_option maxHeartbeats 1000000 in
theorem c_X12_commit {l : Launch} {D : va_G} {aC : Nat → ClassId} {b0 fu : Nat} {a0 : Nat} {σ τ : tM} {v : (Unit) ⊕ Unit} (hm : m_X12_commit b0 fu a0 σ = some (v, τ)) : tMt l D aC b0 yX12_commit (Cond.code yX12_commit cX12_commit 3 none) 6 138 [.ref (a0)] σ (rxV "SyncTreeModel$Off" v) τ := by
  unfold m_X12_commit at hm
  obtain ⟨hg, hm⟩ := grw_e hm
  refine tMt_of (n := 0) rfl (Nat.le_of_ble_eq_true rfl) hg ?_
  intro p e s m below meth c C htab hin
  refine zx_lv [0] [(0, .ref (a0))] rfl ?_
  refine zx_aload_n C dX12_commit_0 0 rfl ?_
  obtain ⟨k1, i2, hm⟩ := ckO_e hm
  obtain ⟨v3, ρ4, h5, hm⟩ := cll_e hm
  refine zx_callV (σ := σ) C [] tC_11 k1 i2 Y_X12_groupSize W_7_189 W_7_191 Wp_59 (c_X12_groupSize h5) (by decide) (by decide) rfl (Nat.le_of_ble_eq_true rfl) dX12_commit_1 rfl ?_
  refine zx_istore_n C [(1, .int (v3)), (0, .ref (a0))] dX12_commit_4 rfl (by decide) rfl ?_
  refine zx_iload_n C dX12_commit_5 0 rfl ?_
  refine zx_aload_n C dX12_commit_6 1 rfl ?_
  obtain ⟨k6, i7, hm⟩ := ckO_e hm
  obtain ⟨v8, ρ9, h10, hm⟩ := cll_e hm
  refine zx_callV (σ := ρ4) C [] tC_11 k6 i7 Y_X12_freeOfLog W_7_200 W_7_202 Wp_61 (c_X12_freeOfLog h10) (by decide) (by decide) rfl (Nat.le_of_ble_eq_true rfl) dX12_commit_7 rfl ?_
  refine zx_icmp_le C 17 dX12_commit_10 (by decide) (fun c11 => ?_) (fun c11 => ?_)
  · replace hm := ip_e hm c11
    exact zx_lv [1, 0] [(0, .ref (a0)), (1, .int (v3))] rfl (j_X12_commit_17 C htab hin    hm)
  · replace hm := in_e hm c11
    refine zx_aload_n C dX12_commit_13 1 rfl ?_
    obtain ⟨k49, i50, hm⟩ := ckO_e hm
    rcases clx_e hm with ⟨v51, ρ52, h53, hm⟩ | ⟨ρ52, h53, hm⟩
    · refine zx_callV (σ := ρ9) C [] tC_11 k49 i50 Y_X12_checkpoint W_7_204 W_7_206 Wp_62 (c_X12_checkpoint h53) (by decide) (by decide) rfl (Nat.le_of_ble_eq_true rfl) dX12_commit_14 rfl ?_
      exact zx_lv [1, 0] [(0, .ref (a0)), (1, .int (v3))] rfl (j_X12_commit_17 C htab hin    hm)
    · cases hm
      exact zx_outV (σ := ρ9) C htab [] tC_11 k49 i50 Y_X12_checkpoint W_7_204 W_7_206 Wp_62 (c_X12_checkpoint h53) rfl (by decide) (by decide) rfl (Nat.le_of_ble_eq_true rfl) dX12_commit_14 rfl
abbrev cX12_postAhead : ByteArray := prog_13_method_28_code
def yX12_postAhead : MethodName := ⟨"SyncTreeModel", "postAhead", "()V"⟩
theorem Y_X12_postAhead : tY yX12_postAhead cX12_postAhead 1 none 0 := ⟨W_7_188, W_1_14, ⟨by decide +kernel, by decide +kernel⟩, by decide +kernel⟩
theorem dX12_postAhead_0 : decode cX12_postAhead 0 = .ok (.aload_n 0, 1) := by decide +kernel
theorem dX12_postAhead_1 : decode cX12_postAhead 1 = .ok (.invokevirtual 171, 3) := by decide +kernel
theorem dX12_postAhead_4 : decode cX12_postAhead 4 = .ok (.aload_n 0, 1) := by decide +kernel
theorem dX12_postAhead_5 : decode cX12_postAhead 5 = .ok (.getfield 38, 3) := by decide +kernel
theorem dX12_postAhead_8 : decode cX12_postAhead 8 = .ok (.iconst 2, 1) := by decide +kernel
theorem dX12_postAhead_9 : decode cX12_postAhead 9 = .ok (.idiv, 1) := by decide +kernel
theorem dX12_postAhead_10 : decode cX12_postAhead 10 = .ok (.if_icmp .le 7, 3) := by decide +kernel
theorem dX12_postAhead_13 : decode cX12_postAhead 13 = .ok (.aload_n 0, 1) := by decide +kernel
theorem dX12_postAhead_14 : decode cX12_postAhead 14 = .ok (.invokevirtual 230, 3) := by decide +kernel
theorem dX12_postAhead_17 : decode cX12_postAhead 17 = .ok (.return_, 1) := by decide +kernel
set_option maxRecDepth 100000 in
set_option maxHeartbeats 1000000 in
theorem j_X12_postAhead_17 {p : Program} {l : Launch} {e : Env} {s : State} {m : MethodId} {args : Array Value} {below : List Frame} {meth : Method} {c : Code} {D : va_G} {aC : Nat → ClassId} {b0 fu : Nat} {σ0 τ : tM} {v : (Unit) ⊕ Unit}  (C : tCx p l s m args meth c yX12_postAhead.cls cX12_postAhead 1 none D aC b0 σ0) (htab : ∀ x ∈ c.exceptionTable.toList, False) (hin : meth.name = yX12_postAhead.name)   {σ : tM} (hm : J_X12_postAhead_17 b0 fu   σ = some (v, τ)) : tX p l e s m args below meth c 1 7 160 D aC b0 σ0 (rxV "SyncTreeModel$Off" v) τ 17 [] [] σ := by
  unfold J_X12_postAhead_17 at hm
  obtain ⟨rfl, rfl⟩ := ret_e hm
  exact zx_vret C rfl rfl rfl dX12_postAhead_17
set_option maxRecDepth 100000 in
set_option maxHeartbeats 1000000 in
theorem c_X12_postAhead {l : Launch} {D : va_G} {aC : Nat → ClassId} {b0 fu : Nat} {a0 : Nat} {σ τ : tM} {v : (Unit) ⊕ Unit} (hm : m_X12_postAhead b0 fu a0 σ = some (v, τ)) : tMt l D aC b0 yX12_postAhead (Cond.code yX12_postAhead cX12_postAhead 1 none) 7 160 [.ref (a0)] σ (rxV "SyncTreeModel$Off" v) τ := by
  unfold m_X12_postAhead at hm
  obtain ⟨hg, hm⟩ := grw_e hm
  refine tMt_of (n := 0) rfl (Nat.le_of_ble_eq_true rfl) hg ?_
  intro p e s m below meth c C htab hin
  refine zx_lv [0] [(0, .ref (a0))] rfl ?_
  refine zx_aload_n C dX12_postAhead_0 0 rfl ?_
  obtain ⟨k1, i2, hm⟩ := ckO_e hm
  obtain ⟨v3, ρ4, h5, hm⟩ := cll_e hm
  refine zx_callV (σ := σ) C [] tC_11 k1 i2 Y_X12_groupSize W_7_189 W_7_191 Wp_59 (c_X12_groupSize h5) (by decide) (by decide) rfl (Nat.le_of_ble_eq_true rfl) dX12_postAhead_1 rfl ?_
  refine zx_aload_n C dX12_postAhead_4 0 rfl ?_
  obtain ⟨k6, i7, hm⟩ := ckO_e hm
  refine zx_get (j := 6) C tC_11 k6 i7 ⟨by decide, Or.inl W_6_225⟩ dX12_postAhead_5 (.int (tI (ρ4) (a0) 6)) rfl ?_
  refine zx_iconst (v := 2) C dX12_postAhead_8 (by decide) ?_
  refine zx_idiv C dX12_postAhead_9 (by decide) ?_
  refine zx_icmp_le C 17 dX12_postAhead_10 (by decide) (fun c8 => ?_) (fun c8 => ?_)
  · replace hm := ip_e hm c8
    exact zx_lv [] [] rfl (j_X12_postAhead_17 C htab hin    hm)
  · replace hm := in_e hm c8
    refine zx_aload_n C dX12_postAhead_13 0 rfl ?_
    rcases clx_e hm with ⟨v9, ρ10, h11, hm⟩ | ⟨ρ10, h11, hm⟩
    · refine zx_callV (σ := ρ4) C [] tC_11 k6 i7 Y_X12_commit W_7_196 W_7_198 Wp_60 (c_X12_commit h11) (by decide) (by decide) rfl (Nat.le_of_ble_eq_true rfl) dX12_postAhead_14 rfl ?_
      exact zx_lv [] [] rfl (j_X12_postAhead_17 C htab hin    hm)
    · cases hm
      exact zx_outV (σ := ρ4) C htab [] tC_11 k6 i7 Y_X12_commit W_7_196 W_7_198 Wp_60 (c_X12_commit h11) rfl (by decide) (by decide) rfl (Nat.le_of_ble_eq_true rfl) dX12_postAhead_14 rfl
abbrev cX12_recovery : ByteArray := prog_13_method_63_code
def yX12_recovery : MethodName := ⟨"SyncTreeModel", "recovery", "()I"⟩
theorem Y_X12_recovery : tY yX12_recovery cX12_recovery 6 (some .int) 0 := ⟨W_9_97, W_1_14, ⟨by decide +kernel, by decide +kernel⟩, by decide +kernel⟩
theorem dX12_recovery_0 : decode cX12_recovery 0 = .ok (.aload_n 0, 1) := by decide +kernel
theorem dX12_recovery_1 : decode cX12_recovery 1 = .ok (.invokevirtual 364, 3) := by decide +kernel
theorem dX12_recovery_4 : decode cX12_recovery 4 = .ok (.aload_n 0, 1) := by decide +kernel
theorem dX12_recovery_5 : decode cX12_recovery 5 = .ok (.iconst 1, 1) := by decide +kernel
theorem dX12_recovery_6 : decode cX12_recovery 6 = .ok (.putfield 58, 3) := by decide +kernel
theorem dX12_recovery_9 : decode cX12_recovery 9 = .ok (.aload_n 0, 1) := by decide +kernel
theorem dX12_recovery_10 : decode cX12_recovery 10 = .ok (.getfield 68, 3) := by decide +kernel
theorem dX12_recovery_13 : decode cX12_recovery 13 = .ok (.iconst 0, 1) := by decide +kernel
theorem dX12_recovery_14 : decode cX12_recovery 14 = .ok (.iaload, 1) := by decide +kernel
theorem dX12_recovery_15 : decode cX12_recovery 15 = .ok (.iconst 1, 1) := by decide +kernel
theorem dX12_recovery_16 : decode cX12_recovery 16 = .ok (.if_icmp .ne 12, 3) := by decide +kernel
theorem dX12_recovery_19 : decode cX12_recovery 19 = .ok (.aload_n 0, 1) := by decide +kernel
theorem dX12_recovery_20 : decode cX12_recovery 20 = .ok (.getfield 74, 3) := by decide +kernel
theorem dX12_recovery_23 : decode cX12_recovery 23 = .ok (.iconst 0, 1) := by decide +kernel
theorem dX12_recovery_24 : decode cX12_recovery 24 = .ok (.iaload, 1) := by decide +kernel
theorem dX12_recovery_25 : decode cX12_recovery 25 = .ok (.goto 4, 3) := by decide +kernel
theorem dX12_recovery_28 : decode cX12_recovery 28 = .ok (.iconst 0, 1) := by decide +kernel
theorem dX12_recovery_29 : decode cX12_recovery 29 = .ok (.istore_n 1, 1) := by decide +kernel
theorem dX12_recovery_30 : decode cX12_recovery 30 = .ok (.iload_n 1, 1) := by decide +kernel
theorem dX12_recovery_31 : decode cX12_recovery 31 = .ok (.istore_n 2, 1) := by decide +kernel
theorem dX12_recovery_32 : decode cX12_recovery 32 = .ok (.aload_n 0, 1) := by decide +kernel
theorem dX12_recovery_33 : decode cX12_recovery 33 = .ok (.iload_n 2, 1) := by decide +kernel
theorem dX12_recovery_34 : decode cX12_recovery 34 = .ok (.iconst 1, 1) := by decide +kernel
theorem dX12_recovery_35 : decode cX12_recovery 35 = .ok (.iadd, 1) := by decide +kernel
theorem dX12_recovery_36 : decode cX12_recovery 36 = .ok (.invokevirtual 367, 3) := by decide +kernel
theorem dX12_recovery_39 : decode cX12_recovery 39 = .ok (.ifCond .eq 9, 3) := by decide +kernel
theorem dX12_recovery_42 : decode cX12_recovery 42 = .ok (.iinc 2 1, 3) := by decide +kernel
theorem dX12_recovery_45 : decode cX12_recovery 45 = .ok (.goto (-13), 3) := by decide +kernel
theorem dX12_recovery_48 : decode cX12_recovery 48 = .ok (.iconst 0, 1) := by decide +kernel
theorem dX12_recovery_49 : decode cX12_recovery 49 = .ok (.istore_n 3, 1) := by decide +kernel
theorem dX12_recovery_50 : decode cX12_recovery 50 = .ok (.iload_n 3, 1) := by decide +kernel
theorem dX12_recovery_51 : decode cX12_recovery 51 = .ok (.aload_n 0, 1) := by decide +kernel
theorem dX12_recovery_52 : decode cX12_recovery 52 = .ok (.getfield 370, 3) := by decide +kernel
theorem dX12_recovery_55 : decode cX12_recovery 55 = .ok (.arraylength, 1) := by decide +kernel
theorem dX12_recovery_56 : decode cX12_recovery 56 = .ok (.if_icmp .ge 16, 3) := by decide +kernel
theorem dX12_recovery_59 : decode cX12_recovery 59 = .ok (.aload_n 0, 1) := by decide +kernel
theorem dX12_recovery_60 : decode cX12_recovery 60 = .ok (.getfield 370, 3) := by decide +kernel
theorem dX12_recovery_63 : decode cX12_recovery 63 = .ok (.iload_n 3, 1) := by decide +kernel
theorem dX12_recovery_64 : decode cX12_recovery 64 = .ok (.iconst 0, 1) := by decide +kernel
theorem dX12_recovery_65 : decode cX12_recovery 65 = .ok (.iastore, 1) := by decide +kernel
theorem dX12_recovery_66 : decode cX12_recovery 66 = .ok (.iinc 3 1, 3) := by decide +kernel
theorem dX12_recovery_69 : decode cX12_recovery 69 = .ok (.goto (-19), 3) := by decide +kernel
theorem dX12_recovery_72 : decode cX12_recovery 72 = .ok (.iload_n 1, 1) := by decide +kernel
theorem dX12_recovery_73 : decode cX12_recovery 73 = .ok (.iconst 1, 1) := by decide +kernel
theorem dX12_recovery_74 : decode cX12_recovery 74 = .ok (.iadd, 1) := by decide +kernel
theorem dX12_recovery_75 : decode cX12_recovery 75 = .ok (.istore_n 3, 1) := by decide +kernel
theorem dX12_recovery_76 : decode cX12_recovery 76 = .ok (.iload_n 3, 1) := by decide +kernel
theorem dX12_recovery_77 : decode cX12_recovery 77 = .ok (.iload_n 2, 1) := by decide +kernel
theorem dX12_recovery_78 : decode cX12_recovery 78 = .ok (.if_icmp .gt 111, 3) := by decide +kernel
theorem dX12_recovery_81 : decode cX12_recovery 81 = .ok (.iload_n 3, 1) := by decide +kernel
theorem dX12_recovery_82 : decode cX12_recovery 82 = .ok (.aload_n 0, 1) := by decide +kernel
theorem dX12_recovery_83 : decode cX12_recovery 83 = .ok (.getfield 128, 3) := by decide +kernel
theorem dX12_recovery_86 : decode cX12_recovery 86 = .ok (.isub, 1) := by decide +kernel
theorem dX12_recovery_87 : decode cX12_recovery 87 = .ok (.iconst 1, 1) := by decide +kernel
theorem dX12_recovery_88 : decode cX12_recovery 88 = .ok (.isub, 1) := by decide +kernel
theorem dX12_recovery_89 : decode cX12_recovery 89 = .ok (.istore 4, 2) := by decide +kernel
theorem dX12_recovery_91 : decode cX12_recovery 91 = .ok (.iconst 0, 1) := by decide +kernel
theorem dX12_recovery_92 : decode cX12_recovery 92 = .ok (.istore 5, 2) := by decide +kernel
theorem dX12_recovery_94 : decode cX12_recovery 94 = .ok (.iload 5, 2) := by decide +kernel
theorem dX12_recovery_96 : decode cX12_recovery 96 = .ok (.aload_n 0, 1) := by decide +kernel
theorem dX12_recovery_97 : decode cX12_recovery 97 = .ok (.getfield 152, 3) := by decide +kernel
theorem dX12_recovery_100 : decode cX12_recovery 100 = .ok (.iload 4, 2) := by decide +kernel
theorem dX12_recovery_102 : decode cX12_recovery 102 = .ok (.iaload, 1) := by decide +kernel
theorem dX12_recovery_103 : decode cX12_recovery 103 = .ok (.if_icmp .ge 30, 3) := by decide +kernel
theorem dX12_recovery_106 : decode cX12_recovery 106 = .ok (.aload_n 0, 1) := by decide +kernel
theorem dX12_recovery_107 : decode cX12_recovery 107 = .ok (.getfield 370, 3) := by decide +kernel
theorem dX12_recovery_110 : decode cX12_recovery 110 = .ok (.aload_n 0, 1) := by decide +kernel
theorem dX12_recovery_111 : decode cX12_recovery 111 = .ok (.getfield 134, 3) := by decide +kernel
theorem dX12_recovery_114 : decode cX12_recovery 114 = .ok (.aload_n 0, 1) := by decide +kernel
theorem dX12_recovery_115 : decode cX12_recovery 115 = .ok (.getfield 149, 3) := by decide +kernel
theorem dX12_recovery_118 : decode cX12_recovery 118 = .ok (.iload 4, 2) := by decide +kernel
theorem dX12_recovery_120 : decode cX12_recovery 120 = .ok (.iaload, 1) := by decide +kernel
theorem dX12_recovery_121 : decode cX12_recovery 121 = .ok (.iload 5, 2) := by decide +kernel
theorem dX12_recovery_123 : decode cX12_recovery 123 = .ok (.iadd, 1) := by decide +kernel
theorem dX12_recovery_124 : decode cX12_recovery 124 = .ok (.iaload, 1) := by decide +kernel
theorem dX12_recovery_125 : decode cX12_recovery 125 = .ok (.iload_n 3, 1) := by decide +kernel
theorem dX12_recovery_126 : decode cX12_recovery 126 = .ok (.iastore, 1) := by decide +kernel
theorem dX12_recovery_127 : decode cX12_recovery 127 = .ok (.iinc 5 1, 3) := by decide +kernel
theorem dX12_recovery_130 : decode cX12_recovery 130 = .ok (.goto (-36), 3) := by decide +kernel
theorem dX12_recovery_133 : decode cX12_recovery 133 = .ok (.iconst 0, 1) := by decide +kernel
theorem dX12_recovery_134 : decode cX12_recovery 134 = .ok (.istore 5, 2) := by decide +kernel
theorem dX12_recovery_136 : decode cX12_recovery 136 = .ok (.iload 5, 2) := by decide +kernel
theorem dX12_recovery_138 : decode cX12_recovery 138 = .ok (.aload_n 0, 1) := by decide +kernel
theorem dX12_recovery_139 : decode cX12_recovery 139 = .ok (.getfield 155, 3) := by decide +kernel
theorem dX12_recovery_142 : decode cX12_recovery 142 = .ok (.iload 4, 2) := by decide +kernel
theorem dX12_recovery_144 : decode cX12_recovery 144 = .ok (.iaload, 1) := by decide +kernel
theorem dX12_recovery_145 : decode cX12_recovery 145 = .ok (.if_icmp .ge 38, 3) := by decide +kernel
theorem dX12_recovery_148 : decode cX12_recovery 148 = .ok (.aload_n 0, 1) := by decide +kernel
theorem dX12_recovery_149 : decode cX12_recovery 149 = .ok (.getfield 370, 3) := by decide +kernel
theorem dX12_recovery_152 : decode cX12_recovery 152 = .ok (.aload_n 0, 1) := by decide +kernel
theorem dX12_recovery_153 : decode cX12_recovery 153 = .ok (.getfield 134, 3) := by decide +kernel
theorem dX12_recovery_156 : decode cX12_recovery 156 = .ok (.aload_n 0, 1) := by decide +kernel
theorem dX12_recovery_157 : decode cX12_recovery 157 = .ok (.getfield 149, 3) := by decide +kernel
theorem dX12_recovery_160 : decode cX12_recovery 160 = .ok (.iload 4, 2) := by decide +kernel
theorem dX12_recovery_162 : decode cX12_recovery 162 = .ok (.iaload, 1) := by decide +kernel
theorem dX12_recovery_163 : decode cX12_recovery 163 = .ok (.aload_n 0, 1) := by decide +kernel
theorem dX12_recovery_164 : decode cX12_recovery 164 = .ok (.getfield 152, 3) := by decide +kernel
theorem dX12_recovery_167 : decode cX12_recovery 167 = .ok (.iload 4, 2) := by decide +kernel
theorem dX12_recovery_169 : decode cX12_recovery 169 = .ok (.iaload, 1) := by decide +kernel
theorem dX12_recovery_170 : decode cX12_recovery 170 = .ok (.iadd, 1) := by decide +kernel
theorem dX12_recovery_171 : decode cX12_recovery 171 = .ok (.iload 5, 2) := by decide +kernel
theorem dX12_recovery_173 : decode cX12_recovery 173 = .ok (.iadd, 1) := by decide +kernel
theorem dX12_recovery_174 : decode cX12_recovery 174 = .ok (.iaload, 1) := by decide +kernel
theorem dX12_recovery_175 : decode cX12_recovery 175 = .ok (.iconst 0, 1) := by decide +kernel
theorem dX12_recovery_176 : decode cX12_recovery 176 = .ok (.iastore, 1) := by decide +kernel
theorem dX12_recovery_177 : decode cX12_recovery 177 = .ok (.iinc 5 1, 3) := by decide +kernel
theorem dX12_recovery_180 : decode cX12_recovery 180 = .ok (.goto (-44), 3) := by decide +kernel
theorem dX12_recovery_183 : decode cX12_recovery 183 = .ok (.iinc 3 1, 3) := by decide +kernel
theorem dX12_recovery_186 : decode cX12_recovery 186 = .ok (.goto (-110), 3) := by decide +kernel
theorem dX12_recovery_189 : decode cX12_recovery 189 = .ok (.iconst 0, 1) := by decide +kernel
theorem dX12_recovery_190 : decode cX12_recovery 190 = .ok (.istore_n 3, 1) := by decide +kernel
theorem dX12_recovery_191 : decode cX12_recovery 191 = .ok (.iload_n 3, 1) := by decide +kernel
theorem dX12_recovery_192 : decode cX12_recovery 192 = .ok (.aload_n 0, 1) := by decide +kernel
theorem dX12_recovery_193 : decode cX12_recovery 193 = .ok (.invokevirtual 164, 3) := by decide +kernel
theorem dX12_recovery_196 : decode cX12_recovery 196 = .ok (.if_icmp .ge 25, 3) := by decide +kernel
theorem dX12_recovery_199 : decode cX12_recovery 199 = .ok (.aload_n 0, 1) := by decide +kernel
theorem dX12_recovery_200 : decode cX12_recovery 200 = .ok (.getfield 370, 3) := by decide +kernel
theorem dX12_recovery_203 : decode cX12_recovery 203 = .ok (.iload_n 3, 1) := by decide +kernel
theorem dX12_recovery_204 : decode cX12_recovery 204 = .ok (.iaload, 1) := by decide +kernel
theorem dX12_recovery_205 : decode cX12_recovery 205 = .ok (.ifCond .le 10, 3) := by decide +kernel
theorem dX12_recovery_208 : decode cX12_recovery 208 = .ok (.aload_n 0, 1) := by decide +kernel
theorem dX12_recovery_209 : decode cX12_recovery 209 = .ok (.iload_n 3, 1) := by decide +kernel
theorem dX12_recovery_210 : decode cX12_recovery 210 = .ok (.iconst 0, 1) := by decide +kernel
theorem dX12_recovery_211 : decode cX12_recovery 211 = .ok (.iconst 0, 1) := by decide +kernel
theorem dX12_recovery_212 : decode cX12_recovery 212 = .ok (.invokevirtual 183, 3) := by decide +kernel
theorem dX12_recovery_215 : decode cX12_recovery 215 = .ok (.iinc 3 1, 3) := by decide +kernel
theorem dX12_recovery_218 : decode cX12_recovery 218 = .ok (.goto (-27), 3) := by decide +kernel
theorem dX12_recovery_221 : decode cX12_recovery 221 = .ok (.aload_n 0, 1) := by decide +kernel
theorem dX12_recovery_222 : decode cX12_recovery 222 = .ok (.invokevirtual 196, 3) := by decide +kernel
theorem dX12_recovery_225 : decode cX12_recovery 225 = .ok (.aload_n 0, 1) := by decide +kernel
theorem dX12_recovery_226 : decode cX12_recovery 226 = .ok (.iconst 0, 1) := by decide +kernel
theorem dX12_recovery_227 : decode cX12_recovery 227 = .ok (.iconst 1, 1) := by decide +kernel
theorem dX12_recovery_228 : decode cX12_recovery 228 = .ok (.iload_n 2, 1) := by decide +kernel
theorem dX12_recovery_229 : decode cX12_recovery 229 = .ok (.invokevirtual 183, 3) := by decide +kernel
theorem dX12_recovery_232 : decode cX12_recovery 232 = .ok (.aload_n 0, 1) := by decide +kernel
theorem dX12_recovery_233 : decode cX12_recovery 233 = .ok (.invokevirtual 196, 3) := by decide +kernel
theorem dX12_recovery_236 : decode cX12_recovery 236 = .ok (.aload_n 0, 1) := by decide +kernel
theorem dX12_recovery_237 : decode cX12_recovery 237 = .ok (.iload_n 2, 1) := by decide +kernel
theorem dX12_recovery_238 : decode cX12_recovery 238 = .ok (.invokevirtual 373, 3) := by decide +kernel
theorem dX12_recovery_241 : decode cX12_recovery 241 = .ok (.iload_n 2, 1) := by decide +kernel
theorem dX12_recovery_242 : decode cX12_recovery 242 = .ok (.iload_n 1, 1) := by decide +kernel
theorem dX12_recovery_243 : decode cX12_recovery 243 = .ok (.isub, 1) := by decide +kernel
theorem dX12_recovery_244 : decode cX12_recovery 244 = .ok (.ireturn, 1) := by decide +kernel
set_option maxRecDepth 100000 in
set_option maxHeartbeats 1000000 in
theorem j_X12_recovery_215 {p : Program} {l : Launch} {e : Env} {s : State} {m : MethodId} {args : Array Value} {below : List Frame} {meth : Method} {c : Code} {D : va_G} {aC : Nat → ClassId} {b0 fu : Nat} {σ0 τ : tM} {v : (Int32) ⊕ Unit} {rc191 : Nat → Int32 → Int32 → Int32 → tM → Option (((Int32) ⊕ Unit) × tM)} (C : tCx p l s m args meth c yX12_recovery.cls cX12_recovery 6 (some .int) D aC b0 σ0) (htab : ∀ x ∈ c.exceptionTable.toList, False) (hin : meth.name = yX12_recovery.name) (hrc191 : ∀ (x0 : Nat) (x1 : Int32) (x2 : Int32) (x3 : Int32) (ρ : tM), rc191 x0 x1 x2 x3 ρ = some (v, τ) → tX p l e s m args below meth c 6 8 190 D aC b0 σ0 (rxI "SyncTreeModel$Off" v) τ 191 [(0, .ref (x0)), (1, .int (x1)), (2, .int (x2)), (3, .int (x3))] [] ρ) {x0 : Nat} {x1 : Int32} {x2 : Int32} {x3 : Int32} {σ : tM} (hm : J_X12_recovery_215 b0 fu rc191 x0 x1 x2 x3 σ = some (v, τ)) : tX p l e s m args below meth c 6 8 190 D aC b0 σ0 (rxI "SyncTreeModel$Off" v) τ 215 [(0, .ref (x0)), (1, .int (x1)), (2, .int (x2)), (3, .int (x3))] [] σ := by
  unfold J_X12_recovery_215 at hm
  obtain ⟨y69, hy69⟩ : ∃ z : Int32, z = (x3) + Int32.ofInt 1 := ⟨_, rfl⟩
  replace hm := ltb_e hm hy69
  refine zx_iinc C [(3, .int (y69)), (0, .ref (x0)), (1, .int (x1)), (2, .int (x2))] dX12_recovery_215 3 rfl hy69.symm (by decide) rfl ?_
  refine zx_goto C 191 dX12_recovery_218 (by decide) ?_
  exact zx_lv [1, 2, 3, 0] [(0, .ref (x0)), (1, .int (x1)), (2, .int (x2)), (3, .int (y69))] rfl (hrc191 _ _ _ _ _ hm)
set_option maxRecDepth 100000 in
set_option maxHeartbeats 1000000 in
theorem l_X12_recovery_191 {p : Program} {l : Launch} {e : Env} {s : State} {m : MethodId} {args : Array Value} {below : List Frame} {meth : Method} {c : Code} {D : va_G} {aC : Nat → ClassId} {b0 fu : Nat} {σ0 τ : tM} {v : (Int32) ⊕ Unit}  (C : tCx p l s m args meth c yX12_recovery.cls cX12_recovery 6 (some .int) D aC b0 σ0) (htab : ∀ x ∈ c.exceptionTable.toList, False) (hin : meth.name = yX12_recovery.name)  : ∀ (n : Nat) (x0 : Nat) (x1 : Int32) (x2 : Int32) (x3 : Int32) (σ : tM), L_X12_recovery_191 b0 fu  n x0 x1 x2 x3 σ = some (v, τ) → tX p l e s m args below meth c 6 8 190 D aC b0 σ0 (rxI "SyncTreeModel$Off" v) τ 191 [(0, .ref (x0)), (1, .int (x1)), (2, .int (x2)), (3, .int (x3))] [] σ := by
  intro n
  induction n with
  | zero => intro x0 x1 x2 x3 σ hm; unfold L_X12_recovery_191 at hm; cases hm
  | succ n ih =>
    intro x0 x1 x2 x3 σ hm
    unfold L_X12_recovery_191 at hm
    obtain ⟨rc191, hrc⟩ : ∃ z, z = L_X12_recovery_191 b0 fu  n := ⟨_, rfl⟩
    replace hm := ltb_e hm hrc
    rw [← hrc] at ih
    have hrc191 := ih
    clear ih hrc
    refine zx_iload_n C dX12_recovery_191 3 rfl ?_
    refine zx_aload_n C dX12_recovery_192 0 rfl ?_
    obtain ⟨k31, i32, hm⟩ := ckO_e hm
    obtain ⟨v33, ρ34, h35, hm⟩ := cll_e hm
    refine zx_callV (σ := σ) C [] tC_11 k31 i32 Y_X12_blocks W_6_216 W_6_218 Wp_55 (c_X12_blocks h35) (by decide) (by decide) rfl (Nat.le_of_ble_eq_true rfl) dX12_recovery_193 rfl ?_
    refine zx_icmp_ge C 221 dX12_recovery_196 (by decide) (fun c36 => ?_) (fun c36 => ?_)
    · replace hm := ip_e hm c36
      refine zx_aload_n C dX12_recovery_221 0 rfl ?_
      obtain ⟨k37, i38, hm⟩ := ckO_e hm
      rcases clx_e hm with ⟨v39, ρ40, h41, hm⟩ | ⟨ρ40, h41, hm⟩
      · refine zx_callV (σ := ρ34) C [] tC_11 k37 i38 Y_X12_flushAct W_7_212 W_7_214 Wp_64 (c_X12_flushAct h41) (by decide) (by decide) rfl (Nat.le_of_ble_eq_true rfl) dX12_recovery_222 rfl ?_
        refine zx_aload_n C dX12_recovery_225 0 rfl ?_
        refine zx_iconst (v := 0) C dX12_recovery_226 (by decide) ?_
        refine zx_iconst (v := 1) C dX12_recovery_227 (by decide) ?_
        refine zx_iload_n C dX12_recovery_228 2 rfl ?_
        obtain ⟨k42, i43, hm⟩ := ckO_e hm
        rcases clx_e hm with ⟨v44, ρ45, h46, hm⟩ | ⟨ρ45, h46, hm⟩
        · refine zx_callV (σ := ρ40) C [.int (0), .int (1), .int (x2)] tC_11 k42 i43 Y_X12_version W_7_237 W_7_239 Wp_70 (c_X12_version h46) (by decide) (by decide) rfl (Nat.le_of_ble_eq_true rfl) dX12_recovery_229 rfl ?_
          refine zx_aload_n C dX12_recovery_232 0 rfl ?_
          obtain ⟨k47, i48, hm⟩ := ckO_e hm
          rcases clx_e hm with ⟨v49, ρ50, h51, hm⟩ | ⟨ρ50, h51, hm⟩
          · refine zx_callV (σ := ρ45) C [] tC_11 k47 i48 Y_X12_flushAct W_7_212 W_7_214 Wp_64 (c_X12_flushAct h51) (by decide) (by decide) rfl (Nat.le_of_ble_eq_true rfl) dX12_recovery_233 rfl ?_
            refine zx_aload_n C dX12_recovery_236 0 rfl ?_
            refine zx_iload_n C dX12_recovery_237 2 rfl ?_
            obtain ⟨k52, i53, hm⟩ := ckO_e hm
            obtain ⟨v54, ρ55, h56, hm⟩ := cll_e hm
            refine zx_callV (σ := ρ50) C [.int (x2)] tC_11 k52 i53 Y_X12_undo W_9_106 W_9_108 Wp_124 (c_X12_undo h56) (by decide) (by decide) rfl (Nat.le_of_ble_eq_true rfl) dX12_recovery_238 rfl ?_
            refine zx_iload_n C dX12_recovery_241 2 rfl ?_
            refine zx_iload_n C dX12_recovery_242 1 rfl ?_
            refine zx_isub C dX12_recovery_243 ?_
            obtain ⟨rfl, rfl⟩ := ret_e hm
            exact zx_iret C rfl rfl rfl dX12_recovery_244
          · cases hm
            exact zx_outV (σ := ρ45) C htab [] tC_11 k47 i48 Y_X12_flushAct W_7_212 W_7_214 Wp_64 (c_X12_flushAct h51) rfl (by decide) (by decide) rfl (Nat.le_of_ble_eq_true rfl) dX12_recovery_233 rfl
        · cases hm
          exact zx_outV (σ := ρ40) C htab [.int (0), .int (1), .int (x2)] tC_11 k42 i43 Y_X12_version W_7_237 W_7_239 Wp_70 (c_X12_version h46) rfl (by decide) (by decide) rfl (Nat.le_of_ble_eq_true rfl) dX12_recovery_229 rfl
      · cases hm
        exact zx_outV (σ := ρ34) C htab [] tC_11 k37 i38 Y_X12_flushAct W_7_212 W_7_214 Wp_64 (c_X12_flushAct h41) rfl (by decide) (by decide) rfl (Nat.le_of_ble_eq_true rfl) dX12_recovery_222 rfl
    · replace hm := in_e hm c36
      refine zx_aload_n C dX12_recovery_199 0 rfl ?_
      obtain ⟨k60, i61, hm⟩ := ckO_e hm
      obtain ⟨a62, h63, hm⟩ := osm_e hm
      refine zx_get (j := 55) C tC_11 k60 i61 ⟨by decide, Or.inl W_7_34⟩ dX12_recovery_200 (.ref a62) (rf_s h63) ?_
      refine zx_iload_n C dX12_recovery_203 3 rfl ?_
      obtain ⟨n66, k64, i65, hm⟩ := ckR_e hm
      obtain ⟨h67, hm⟩ := ckI_e hm
      refine zx_iald C k64 i65 h67 dX12_recovery_204 ?_
      refine zx_if_le C 215 dX12_recovery_205 (by decide) (fun c68 => ?_) (fun c68 => ?_)
      · replace hm := ip_e hm c68
        exact zx_lv [0, 1, 2, 3] [(0, .ref (x0)), (1, .int (x1)), (2, .int (x2)), (3, .int (x3))] rfl (j_X12_recovery_215 C htab hin hrc191   hm)
      · replace hm := in_e hm c68
        refine zx_aload_n C dX12_recovery_208 0 rfl ?_
        refine zx_iload_n C dX12_recovery_209 3 rfl ?_
        refine zx_iconst (v := 0) C dX12_recovery_210 (by decide) ?_
        refine zx_iconst (v := 0) C dX12_recovery_211 (by decide) ?_
        rcases clx_e hm with ⟨v70, ρ71, h72, hm⟩ | ⟨ρ71, h72, hm⟩
        · refine zx_callV (σ := ρ34) C [.int (x3), .int (0), .int (0)] tC_11 k60 i61 Y_X12_version W_7_237 W_7_239 Wp_70 (c_X12_version h72) (by decide) (by decide) rfl (Nat.le_of_ble_eq_true rfl) dX12_recovery_212 rfl ?_
          exact zx_lv [0, 1, 2, 3] [(0, .ref (x0)), (1, .int (x1)), (2, .int (x2)), (3, .int (x3))] rfl (j_X12_recovery_215 C htab hin hrc191   hm)
        · cases hm
          exact zx_outV (σ := ρ34) C htab [.int (x3), .int (0), .int (0)] tC_11 k60 i61 Y_X12_version W_7_237 W_7_239 Wp_70 (c_X12_version h72) rfl (by decide) (by decide) rfl (Nat.le_of_ble_eq_true rfl) dX12_recovery_212 rfl
set_option maxRecDepth 100000 in
set_option maxHeartbeats 1000000 in
theorem j_X12_recovery_189 {p : Program} {l : Launch} {e : Env} {s : State} {m : MethodId} {args : Array Value} {below : List Frame} {meth : Method} {c : Code} {D : va_G} {aC : Nat → ClassId} {b0 fu : Nat} {σ0 τ : tM} {v : (Int32) ⊕ Unit}  (C : tCx p l s m args meth c yX12_recovery.cls cX12_recovery 6 (some .int) D aC b0 σ0) (htab : ∀ x ∈ c.exceptionTable.toList, False) (hin : meth.name = yX12_recovery.name)  {x0 : Nat} {x1 : Int32} {x2 : Int32} {σ : tM} (hm : J_X12_recovery_189 b0 fu  x0 x1 x2 σ = some (v, τ)) : tX p l e s m args below meth c 6 8 190 D aC b0 σ0 (rxI "SyncTreeModel$Off" v) τ 189 [(0, .ref (x0)), (1, .int (x1)), (2, .int (x2))] [] σ := by
  unfold J_X12_recovery_189 at hm
  refine zx_iconst (v := 0) C dX12_recovery_189 (by decide) ?_
  refine zx_istore_n C [(3, .int (0)), (0, .ref (x0)), (1, .int (x1)), (2, .int (x2))] dX12_recovery_190 rfl (by decide) rfl ?_
  exact zx_lv [1, 2, 3, 0] [(0, .ref (x0)), (1, .int (x1)), (2, .int (x2)), (3, .int (0))] rfl (l_X12_recovery_191 C htab hin  _ _ _ _ _ _ hm)
set_option maxRecDepth 100000 in
set_option maxHeartbeats 1000000 in
theorem l_X12_recovery_136 {p : Program} {l : Launch} {e : Env} {s : State} {m : MethodId} {args : Array Value} {below : List Frame} {meth : Method} {c : Code} {D : va_G} {aC : Nat → ClassId} {b0 fu : Nat} {σ0 τ : tM} {v : (Int32) ⊕ Unit} {rc76 : Nat → Int32 → Int32 → Int32 → tM → Option (((Int32) ⊕ Unit) × tM)} (C : tCx p l s m args meth c yX12_recovery.cls cX12_recovery 6 (some .int) D aC b0 σ0) (htab : ∀ x ∈ c.exceptionTable.toList, False) (hin : meth.name = yX12_recovery.name) (hrc76 : ∀ (x0 : Nat) (x1 : Int32) (x2 : Int32) (x3 : Int32) (ρ : tM), rc76 x0 x1 x2 x3 ρ = some (v, τ) → tX p l e s m args below meth c 6 8 190 D aC b0 σ0 (rxI "SyncTreeModel$Off" v) τ 76 [(0, .ref (x0)), (1, .int (x1)), (2, .int (x2)), (3, .int (x3))] [] ρ) : ∀ (n : Nat) (x0 : Nat) (x1 : Int32) (x2 : Int32) (x3 : Int32) (x4 : Int32) (x5 : Int32) (σ : tM), L_X12_recovery_136 b0 fu rc76 n x0 x1 x2 x3 x4 x5 σ = some (v, τ) → tX p l e s m args below meth c 6 8 190 D aC b0 σ0 (rxI "SyncTreeModel$Off" v) τ 136 [(0, .ref (x0)), (1, .int (x1)), (2, .int (x2)), (3, .int (x3)), (4, .int (x4)), (5, .int (x5))] [] σ := by
  intro n
  induction n with
  | zero => intro x0 x1 x2 x3 x4 x5 σ hm; unfold L_X12_recovery_136 at hm; cases hm
  | succ n ih =>
    intro x0 x1 x2 x3 x4 x5 σ hm
    unfold L_X12_recovery_136 at hm
    obtain ⟨rc136, hrc⟩ : ∃ z, z = L_X12_recovery_136 b0 fu rc76 n := ⟨_, rfl⟩
    replace hm := ltb_e hm hrc
    rw [← hrc] at ih
    have hrc136 := ih
    clear ih hrc
    refine zx_iload C dX12_recovery_136 5 rfl ?_
    refine zx_aload_n C dX12_recovery_138 0 rfl ?_
    obtain ⟨k86, i87, hm⟩ := ckO_e hm
    obtain ⟨a88, h89, hm⟩ := osm_e hm
    refine zx_get (j := 43) C tC_11 k86 i87 ⟨by decide, Or.inl W_7_22⟩ dX12_recovery_139 (.ref a88) (rf_s h89) ?_
    refine zx_iload C dX12_recovery_142 4 rfl ?_
    obtain ⟨n92, k90, i91, hm⟩ := ckR_e hm
    obtain ⟨h93, hm⟩ := ckI_e hm
    refine zx_iald C k90 i91 h93 dX12_recovery_144 ?_
    refine zx_icmp_ge C 183 dX12_recovery_145 (by decide) (fun c94 => ?_) (fun c94 => ?_)
    · replace hm := ip_e hm c94
      obtain ⟨y95, hy95⟩ : ∃ z : Int32, z = (x3) + Int32.ofInt 1 := ⟨_, rfl⟩
      replace hm := ltb_e hm hy95
      refine zx_iinc C [(3, .int (y95)), (0, .ref (x0)), (1, .int (x1)), (2, .int (x2)), (4, .int (x4)), (5, .int (x5))] dX12_recovery_183 3 rfl hy95.symm (by decide) rfl ?_
      refine zx_goto C 76 dX12_recovery_186 (by decide) ?_
      exact zx_lv [1, 2, 3, 0] [(0, .ref (x0)), (1, .int (x1)), (2, .int (x2)), (3, .int (y95))] rfl (hrc76 _ _ _ _ _ hm)
    · replace hm := in_e hm c94
      refine zx_aload_n C dX12_recovery_148 0 rfl ?_
      obtain ⟨a96, h97, hm⟩ := osm_e hm
      refine zx_get (j := 55) C tC_11 k86 i87 ⟨by decide, Or.inl W_7_34⟩ dX12_recovery_149 (.ref a96) (rf_s h97) ?_
      refine zx_aload_n C dX12_recovery_152 0 rfl ?_
      obtain ⟨a98, h99, hm⟩ := osm_e hm
      refine zx_get (j := 44) C tC_11 k86 i87 ⟨by decide, Or.inl W_7_23⟩ dX12_recovery_153 (.ref a98) (rf_s h99) ?_
      refine zx_aload_n C dX12_recovery_156 0 rfl ?_
      obtain ⟨a100, h101, hm⟩ := osm_e hm
      refine zx_get (j := 41) C tC_11 k86 i87 ⟨by decide, Or.inl W_7_20⟩ dX12_recovery_157 (.ref a100) (rf_s h101) ?_
      refine zx_iload C dX12_recovery_160 4 rfl ?_
      obtain ⟨n104, k102, i103, hm⟩ := ckR_e hm
      obtain ⟨h105, hm⟩ := ckI_e hm
      refine zx_iald C k102 i103 h105 dX12_recovery_162 ?_
      refine zx_aload_n C dX12_recovery_163 0 rfl ?_
      obtain ⟨a106, h107, hm⟩ := osm_e hm
      refine zx_get (j := 42) C tC_11 k86 i87 ⟨by decide, Or.inl W_7_21⟩ dX12_recovery_164 (.ref a106) (rf_s h107) ?_
      refine zx_iload C dX12_recovery_167 4 rfl ?_
      obtain ⟨n110, k108, i109, hm⟩ := ckR_e hm
      obtain ⟨h111, hm⟩ := ckI_e hm
      refine zx_iald C k108 i109 h111 dX12_recovery_169 ?_
      refine zx_iadd C dX12_recovery_170 ?_
      refine zx_iload C dX12_recovery_171 5 rfl ?_
      refine zx_iadd C dX12_recovery_173 ?_
      obtain ⟨n114, k112, i113, hm⟩ := ckR_e hm
      obtain ⟨h115, hm⟩ := ckI_e hm
      refine zx_iald C k112 i113 h115 dX12_recovery_174 ?_
      refine zx_iconst (v := 0) C dX12_recovery_175 (by decide) ?_
      obtain ⟨n118, k116, i117, hm⟩ := ckR_e hm
      obtain ⟨h119, hm⟩ := ckI_e hm
      refine zx_iast C k116 i117 h119 dX12_recovery_176 ?_
      obtain ⟨y120, hy120⟩ : ∃ z : Int32, z = (x5) + Int32.ofInt 1 := ⟨_, rfl⟩
      replace hm := ltb_e hm hy120
      refine zx_iinc C [(5, .int (y120)), (0, .ref (x0)), (1, .int (x1)), (2, .int (x2)), (3, .int (x3)), (4, .int (x4))] dX12_recovery_177 5 rfl hy120.symm (by decide) rfl ?_
      refine zx_goto C 136 dX12_recovery_180 (by decide) ?_
      exact zx_lv [1, 2, 3, 4, 5, 0] [(0, .ref (x0)), (1, .int (x1)), (2, .int (x2)), (3, .int (x3)), (4, .int (x4)), (5, .int (y120))] rfl (hrc136 _ _ _ _ _ _ _ hm)
set_option maxRecDepth 100000 in
set_option maxHeartbeats 1000000 in
theorem l_X12_recovery_94 {p : Program} {l : Launch} {e : Env} {s : State} {m : MethodId} {args : Array Value} {below : List Frame} {meth : Method} {c : Code} {D : va_G} {aC : Nat → ClassId} {b0 fu : Nat} {σ0 τ : tM} {v : (Int32) ⊕ Unit} {rc76 : Nat → Int32 → Int32 → Int32 → tM → Option (((Int32) ⊕ Unit) × tM)} (C : tCx p l s m args meth c yX12_recovery.cls cX12_recovery 6 (some .int) D aC b0 σ0) (htab : ∀ x ∈ c.exceptionTable.toList, False) (hin : meth.name = yX12_recovery.name) (hrc76 : ∀ (x0 : Nat) (x1 : Int32) (x2 : Int32) (x3 : Int32) (ρ : tM), rc76 x0 x1 x2 x3 ρ = some (v, τ) → tX p l e s m args below meth c 6 8 190 D aC b0 σ0 (rxI "SyncTreeModel$Off" v) τ 76 [(0, .ref (x0)), (1, .int (x1)), (2, .int (x2)), (3, .int (x3))] [] ρ) : ∀ (n : Nat) (x0 : Nat) (x1 : Int32) (x2 : Int32) (x3 : Int32) (x4 : Int32) (x5 : Int32) (σ : tM), L_X12_recovery_94 b0 fu rc76 n x0 x1 x2 x3 x4 x5 σ = some (v, τ) → tX p l e s m args below meth c 6 8 190 D aC b0 σ0 (rxI "SyncTreeModel$Off" v) τ 94 [(0, .ref (x0)), (1, .int (x1)), (2, .int (x2)), (3, .int (x3)), (4, .int (x4)), (5, .int (x5))] [] σ := by
  intro n
  induction n with
  | zero => intro x0 x1 x2 x3 x4 x5 σ hm; unfold L_X12_recovery_94 at hm; cases hm
  | succ n ih =>
    intro x0 x1 x2 x3 x4 x5 σ hm
    unfold L_X12_recovery_94 at hm
    obtain ⟨rc94, hrc⟩ : ∃ z, z = L_X12_recovery_94 b0 fu rc76 n := ⟨_, rfl⟩
    replace hm := ltb_e hm hrc
    rw [← hrc] at ih
    have hrc94 := ih
    clear ih hrc
    refine zx_iload C dX12_recovery_94 5 rfl ?_
    refine zx_aload_n C dX12_recovery_96 0 rfl ?_
    obtain ⟨k77, i78, hm⟩ := ckO_e hm
    obtain ⟨a79, h80, hm⟩ := osm_e hm
    refine zx_get (j := 42) C tC_11 k77 i78 ⟨by decide, Or.inl W_7_21⟩ dX12_recovery_97 (.ref a79) (rf_s h80) ?_
    refine zx_iload C dX12_recovery_100 4 rfl ?_
    obtain ⟨n83, k81, i82, hm⟩ := ckR_e hm
    obtain ⟨h84, hm⟩ := ckI_e hm
    refine zx_iald C k81 i82 h84 dX12_recovery_102 ?_
    refine zx_icmp_ge C 133 dX12_recovery_103 (by decide) (fun c85 => ?_) (fun c85 => ?_)
    · replace hm := ip_e hm c85
      refine zx_iconst (v := 0) C dX12_recovery_133 (by decide) ?_
      refine zx_istore C [(5, .int (0)), (0, .ref (x0)), (1, .int (x1)), (2, .int (x2)), (3, .int (x3)), (4, .int (x4))] dX12_recovery_134 (by decide) rfl ?_
      exact zx_lv [1, 2, 3, 4, 5, 0] [(0, .ref (x0)), (1, .int (x1)), (2, .int (x2)), (3, .int (x3)), (4, .int (x4)), (5, .int (0))] rfl (l_X12_recovery_136 C htab hin hrc76 _ _ _ _ _ _ _ _ hm)
    · replace hm := in_e hm c85
      refine zx_aload_n C dX12_recovery_106 0 rfl ?_
      obtain ⟨a121, h122, hm⟩ := osm_e hm
      refine zx_get (j := 55) C tC_11 k77 i78 ⟨by decide, Or.inl W_7_34⟩ dX12_recovery_107 (.ref a121) (rf_s h122) ?_
      refine zx_aload_n C dX12_recovery_110 0 rfl ?_
      obtain ⟨a123, h124, hm⟩ := osm_e hm
      refine zx_get (j := 44) C tC_11 k77 i78 ⟨by decide, Or.inl W_7_23⟩ dX12_recovery_111 (.ref a123) (rf_s h124) ?_
      refine zx_aload_n C dX12_recovery_114 0 rfl ?_
      obtain ⟨a125, h126, hm⟩ := osm_e hm
      refine zx_get (j := 41) C tC_11 k77 i78 ⟨by decide, Or.inl W_7_20⟩ dX12_recovery_115 (.ref a125) (rf_s h126) ?_
      refine zx_iload C dX12_recovery_118 4 rfl ?_
      obtain ⟨n129, k127, i128, hm⟩ := ckR_e hm
      obtain ⟨h130, hm⟩ := ckI_e hm
      refine zx_iald C k127 i128 h130 dX12_recovery_120 ?_
      refine zx_iload C dX12_recovery_121 5 rfl ?_
      refine zx_iadd C dX12_recovery_123 ?_
      obtain ⟨n133, k131, i132, hm⟩ := ckR_e hm
      obtain ⟨h134, hm⟩ := ckI_e hm
      refine zx_iald C k131 i132 h134 dX12_recovery_124 ?_
      refine zx_iload_n C dX12_recovery_125 3 rfl ?_
      obtain ⟨n137, k135, i136, hm⟩ := ckR_e hm
      obtain ⟨h138, hm⟩ := ckI_e hm
      refine zx_iast C k135 i136 h138 dX12_recovery_126 ?_
      obtain ⟨y139, hy139⟩ : ∃ z : Int32, z = (x5) + Int32.ofInt 1 := ⟨_, rfl⟩
      replace hm := ltb_e hm hy139
      refine zx_iinc C [(5, .int (y139)), (0, .ref (x0)), (1, .int (x1)), (2, .int (x2)), (3, .int (x3)), (4, .int (x4))] dX12_recovery_127 5 rfl hy139.symm (by decide) rfl ?_
      refine zx_goto C 94 dX12_recovery_130 (by decide) ?_
      exact zx_lv [1, 2, 3, 4, 5, 0] [(0, .ref (x0)), (1, .int (x1)), (2, .int (x2)), (3, .int (x3)), (4, .int (x4)), (5, .int (y139))] rfl (hrc94 _ _ _ _ _ _ _ hm)
set_option maxRecDepth 100000 in
set_option maxHeartbeats 1000000 in
theorem l_X12_recovery_76 {p : Program} {l : Launch} {e : Env} {s : State} {m : MethodId} {args : Array Value} {below : List Frame} {meth : Method} {c : Code} {D : va_G} {aC : Nat → ClassId} {b0 fu : Nat} {σ0 τ : tM} {v : (Int32) ⊕ Unit}  (C : tCx p l s m args meth c yX12_recovery.cls cX12_recovery 6 (some .int) D aC b0 σ0) (htab : ∀ x ∈ c.exceptionTable.toList, False) (hin : meth.name = yX12_recovery.name)  : ∀ (n : Nat) (x0 : Nat) (x1 : Int32) (x2 : Int32) (x3 : Int32) (σ : tM), L_X12_recovery_76 b0 fu  n x0 x1 x2 x3 σ = some (v, τ) → tX p l e s m args below meth c 6 8 190 D aC b0 σ0 (rxI "SyncTreeModel$Off" v) τ 76 [(0, .ref (x0)), (1, .int (x1)), (2, .int (x2)), (3, .int (x3))] [] σ := by
  intro n
  induction n with
  | zero => intro x0 x1 x2 x3 σ hm; unfold L_X12_recovery_76 at hm; cases hm
  | succ n ih =>
    intro x0 x1 x2 x3 σ hm
    unfold L_X12_recovery_76 at hm
    obtain ⟨rc76, hrc⟩ : ∃ z, z = L_X12_recovery_76 b0 fu  n := ⟨_, rfl⟩
    replace hm := ltb_e hm hrc
    rw [← hrc] at ih
    have hrc76 := ih
    clear ih hrc
    refine zx_iload_n C dX12_recovery_76 3 rfl ?_
    refine zx_iload_n C dX12_recovery_77 2 rfl ?_
    refine zx_icmp_gt C 189 dX12_recovery_78 (by decide) (fun c30 => ?_) (fun c30 => ?_)
    · replace hm := ip_e hm c30
      exact zx_lv [0, 1, 2] [(0, .ref (x0)), (1, .int (x1)), (2, .int (x2))] rfl (j_X12_recovery_189 C htab hin    hm)
    · replace hm := in_e hm c30
      refine zx_iload_n C dX12_recovery_81 3 rfl ?_
      refine zx_aload_n C dX12_recovery_82 0 rfl ?_
      obtain ⟨k74, i75, hm⟩ := ckO_e hm
      refine zx_get (j := 35) C tC_11 k74 i75 ⟨by decide, Or.inl W_7_14⟩ dX12_recovery_83 (.int (tI (σ) (x0) 35)) rfl ?_
      refine zx_isub C dX12_recovery_86 ?_
      refine zx_iconst (v := 1) C dX12_recovery_87 (by decide) ?_
      refine zx_isub C dX12_recovery_88 ?_
      refine zx_topi (fun y76 hy76 => ?_)
      replace hm := ltb_e hm hy76
      refine zx_istore C [(4, .int (y76)), (0, .ref (x0)), (1, .int (x1)), (2, .int (x2)), (3, .int (x3))] dX12_recovery_89 (by decide) rfl ?_
      refine zx_iconst (v := 0) C dX12_recovery_91 (by decide) ?_
      refine zx_istore C [(5, .int (0)), (4, .int (y76)), (0, .ref (x0)), (1, .int (x1)), (2, .int (x2)), (3, .int (x3))] dX12_recovery_92 (by decide) rfl ?_
      exact zx_lv [2, 3, 4, 5, 1, 0] [(0, .ref (x0)), (1, .int (x1)), (2, .int (x2)), (3, .int (x3)), (4, .int (y76)), (5, .int (0))] rfl (l_X12_recovery_94 C htab hin hrc76 _ _ _ _ _ _ _ _ hm)
set_option maxRecDepth 100000 in
set_option maxHeartbeats 1000000 in
theorem l_X12_recovery_50 {p : Program} {l : Launch} {e : Env} {s : State} {m : MethodId} {args : Array Value} {below : List Frame} {meth : Method} {c : Code} {D : va_G} {aC : Nat → ClassId} {b0 fu : Nat} {σ0 τ : tM} {v : (Int32) ⊕ Unit}  (C : tCx p l s m args meth c yX12_recovery.cls cX12_recovery 6 (some .int) D aC b0 σ0) (htab : ∀ x ∈ c.exceptionTable.toList, False) (hin : meth.name = yX12_recovery.name)  : ∀ (n : Nat) (x0 : Nat) (x1 : Int32) (x2 : Int32) (x3 : Int32) (σ : tM), L_X12_recovery_50 b0 fu  n x0 x1 x2 x3 σ = some (v, τ) → tX p l e s m args below meth c 6 8 190 D aC b0 σ0 (rxI "SyncTreeModel$Off" v) τ 50 [(0, .ref (x0)), (1, .int (x1)), (2, .int (x2)), (3, .int (x3))] [] σ := by
  intro n
  induction n with
  | zero => intro x0 x1 x2 x3 σ hm; unfold L_X12_recovery_50 at hm; cases hm
  | succ n ih =>
    intro x0 x1 x2 x3 σ hm
    unfold L_X12_recovery_50 at hm
    obtain ⟨rc50, hrc⟩ : ∃ z, z = L_X12_recovery_50 b0 fu  n := ⟨_, rfl⟩
    replace hm := ltb_e hm hrc
    rw [← hrc] at ih
    have hrc50 := ih
    clear ih hrc
    refine zx_iload_n C dX12_recovery_50 3 rfl ?_
    refine zx_aload_n C dX12_recovery_51 0 rfl ?_
    obtain ⟨k21, i22, hm⟩ := ckO_e hm
    obtain ⟨a23, h24, hm⟩ := osm_e hm
    refine zx_get (j := 55) C tC_11 k21 i22 ⟨by decide, Or.inl W_7_34⟩ dX12_recovery_52 (.ref a23) (rf_s h24) ?_
    obtain ⟨n27, k25, i26, hm⟩ := ckR_e hm
    refine zx_alen C k25 (by decide) i26 dX12_recovery_55 ?_
    refine zx_icmp_ge C 72 dX12_recovery_56 (by decide) (fun c28 => ?_) (fun c28 => ?_)
    · replace hm := ip_e hm c28
      refine zx_iload_n C dX12_recovery_72 1 rfl ?_
      refine zx_iconst (v := 1) C dX12_recovery_73 (by decide) ?_
      refine zx_iadd C dX12_recovery_74 ?_
      refine zx_topi (fun y29 hy29 => ?_)
      replace hm := ltb_e hm hy29
      refine zx_istore_n C [(3, .int (y29)), (0, .ref (x0)), (1, .int (x1)), (2, .int (x2))] dX12_recovery_75 rfl (by decide) rfl ?_
      exact zx_lv [1, 2, 3, 0] [(0, .ref (x0)), (1, .int (x1)), (2, .int (x2)), (3, .int (y29))] rfl (l_X12_recovery_76 C htab hin  _ _ _ _ _ _ hm)
    · replace hm := in_e hm c28
      refine zx_aload_n C dX12_recovery_59 0 rfl ?_
      obtain ⟨a140, h141, hm⟩ := osm_e hm
      refine zx_get (j := 55) C tC_11 k21 i22 ⟨by decide, Or.inl W_7_34⟩ dX12_recovery_60 (.ref a140) (rf_s h141) ?_
      refine zx_iload_n C dX12_recovery_63 3 rfl ?_
      refine zx_iconst (v := 0) C dX12_recovery_64 (by decide) ?_
      obtain ⟨n144, k142, i143, hm⟩ := ckR_e hm
      obtain ⟨h145, hm⟩ := ckI_e hm
      refine zx_iast C k142 i143 h145 dX12_recovery_65 ?_
      obtain ⟨y146, hy146⟩ : ∃ z : Int32, z = (x3) + Int32.ofInt 1 := ⟨_, rfl⟩
      replace hm := ltb_e hm hy146
      refine zx_iinc C [(3, .int (y146)), (0, .ref (x0)), (1, .int (x1)), (2, .int (x2))] dX12_recovery_66 3 rfl hy146.symm (by decide) rfl ?_
      refine zx_goto C 50 dX12_recovery_69 (by decide) ?_
      exact zx_lv [1, 2, 3, 0] [(0, .ref (x0)), (1, .int (x1)), (2, .int (x2)), (3, .int (y146))] rfl (hrc50 _ _ _ _ _ hm)
set_option maxRecDepth 100000 in
set_option maxHeartbeats 1000000 in
theorem l_X12_recovery_32 {p : Program} {l : Launch} {e : Env} {s : State} {m : MethodId} {args : Array Value} {below : List Frame} {meth : Method} {c : Code} {D : va_G} {aC : Nat → ClassId} {b0 fu : Nat} {σ0 τ : tM} {v : (Int32) ⊕ Unit}  (C : tCx p l s m args meth c yX12_recovery.cls cX12_recovery 6 (some .int) D aC b0 σ0) (htab : ∀ x ∈ c.exceptionTable.toList, False) (hin : meth.name = yX12_recovery.name)  : ∀ (n : Nat) (x0 : Nat) (x1 : Int32) (x2 : Int32) (σ : tM), L_X12_recovery_32 b0 fu  n x0 x1 x2 σ = some (v, τ) → tX p l e s m args below meth c 6 8 190 D aC b0 σ0 (rxI "SyncTreeModel$Off" v) τ 32 [(0, .ref (x0)), (1, .int (x1)), (2, .int (x2))] [] σ := by
  intro n
  induction n with
  | zero => intro x0 x1 x2 σ hm; unfold L_X12_recovery_32 at hm; cases hm
  | succ n ih =>
    intro x0 x1 x2 σ hm
    unfold L_X12_recovery_32 at hm
    obtain ⟨rc32, hrc⟩ : ∃ z, z = L_X12_recovery_32 b0 fu  n := ⟨_, rfl⟩
    replace hm := ltb_e hm hrc
    rw [← hrc] at ih
    have hrc32 := ih
    clear ih hrc
    refine zx_aload_n C dX12_recovery_32 0 rfl ?_
    refine zx_iload_n C dX12_recovery_33 2 rfl ?_
    refine zx_iconst (v := 1) C dX12_recovery_34 (by decide) ?_
    refine zx_iadd C dX12_recovery_35 ?_
    obtain ⟨k15, i16, hm⟩ := ckO_e hm
    obtain ⟨v17, ρ18, h19, hm⟩ := cll_e hm
    refine zx_callV (σ := σ) C [.int ((x2) + (1))] tC_11 k15 i16 Y_X12_isWhole W_9_102 W_9_104 Wp_123 (c_X12_isWhole h19) (by decide) (by decide) rfl (Nat.le_of_ble_eq_true rfl) dX12_recovery_36 rfl ?_
    refine zx_if_eq C 48 dX12_recovery_39 (by decide) (fun c20 => ?_) (fun c20 => ?_)
    · replace hm := ip_e hm c20
      refine zx_iconst (v := 0) C dX12_recovery_48 (by decide) ?_
      refine zx_istore_n C [(3, .int (0)), (0, .ref (x0)), (1, .int (x1)), (2, .int (x2))] dX12_recovery_49 rfl (by decide) rfl ?_
      exact zx_lv [1, 2, 3, 0] [(0, .ref (x0)), (1, .int (x1)), (2, .int (x2)), (3, .int (0))] rfl (l_X12_recovery_50 C htab hin  _ _ _ _ _ _ hm)
    · replace hm := in_e hm c20
      obtain ⟨y147, hy147⟩ : ∃ z : Int32, z = (x2) + Int32.ofInt 1 := ⟨_, rfl⟩
      replace hm := ltb_e hm hy147
      refine zx_iinc C [(2, .int (y147)), (0, .ref (x0)), (1, .int (x1))] dX12_recovery_42 2 rfl hy147.symm (by decide) rfl ?_
      refine zx_goto C 32 dX12_recovery_45 (by decide) ?_
      exact zx_lv [1, 2, 0] [(0, .ref (x0)), (1, .int (x1)), (2, .int (y147))] rfl (hrc32 _ _ _ _ hm)
set_option maxRecDepth 100000 in
set_option maxHeartbeats 1000000 in
theorem j_X12_recovery_29 {p : Program} {l : Launch} {e : Env} {s : State} {m : MethodId} {args : Array Value} {below : List Frame} {meth : Method} {c : Code} {D : va_G} {aC : Nat → ClassId} {b0 fu : Nat} {σ0 τ : tM} {v : (Int32) ⊕ Unit}  (C : tCx p l s m args meth c yX12_recovery.cls cX12_recovery 6 (some .int) D aC b0 σ0) (htab : ∀ x ∈ c.exceptionTable.toList, False) (hin : meth.name = yX12_recovery.name)  {x0 : Nat} {s0 : Int32} {σ : tM} (hm : J_X12_recovery_29 b0 fu  x0 s0 σ = some (v, τ)) : tX p l e s m args below meth c 6 8 190 D aC b0 σ0 (rxI "SyncTreeModel$Off" v) τ 29 [(0, .ref (x0))] [.int (s0)] σ := by
  unfold J_X12_recovery_29 at hm
  refine zx_istore_n C [(1, .int (s0)), (0, .ref (x0))] dX12_recovery_29 rfl (by decide) rfl ?_
  refine zx_iload_n C dX12_recovery_30 0 rfl ?_
  refine zx_istore_n C [(2, .int (s0)), (1, .int (s0)), (0, .ref (x0))] dX12_recovery_31 rfl (by decide) rfl ?_
  exact zx_lv [2, 1, 0] [(0, .ref (x0)), (1, .int (s0)), (2, .int (s0))] rfl (l_X12_recovery_32 C htab hin  _ _ _ _ _ hm)
set_option maxRecDepth 100000 in
set_option maxHeartbeats 1000000 in
theorem c_X12_recovery {l : Launch} {D : va_G} {aC : Nat → ClassId} {b0 fu : Nat} {a0 : Nat} {σ τ : tM} {v : (Int32) ⊕ Unit} (hm : m_X12_recovery b0 fu a0 σ = some (v, τ)) : tMt l D aC b0 yX12_recovery (Cond.code yX12_recovery cX12_recovery 6 (some .int)) 8 190 [.ref (a0)] σ (rxI "SyncTreeModel$Off" v) τ := by
  unfold m_X12_recovery at hm
  obtain ⟨hg, hm⟩ := grw_e hm
  refine tMt_of (n := 0) rfl (Nat.le_of_ble_eq_true rfl) hg ?_
  intro p e s m below meth c C htab hin
  refine zx_lv [0] [(0, .ref (a0))] rfl ?_
  refine zx_aload_n C dX12_recovery_0 0 rfl ?_
  obtain ⟨k1, i2, hm⟩ := ckO_e hm
  obtain ⟨v3, ρ4, h5, hm⟩ := cll_e hm
  refine zx_callV (σ := σ) C [] tC_11 k1 i2 Y_X12_keepChosen W_9_98 W_9_100 Wp_122 (c_X12_keepChosen h5) (by decide) (by decide) rfl (Nat.le_of_ble_eq_true rfl) dX12_recovery_1 rfl ?_
  refine zx_aload_n C dX12_recovery_4 0 rfl ?_
  refine zx_iconst (v := 1) C dX12_recovery_5 (by decide) ?_
  obtain ⟨k6, i7, hm⟩ := ckO_e hm
  refine zx_put (j := 18) (ρ := sI (ρ4) (a0) 18 (1)) C tC_11 k6 i7 ⟨by decide, Or.inl W_6_237⟩ rfl rfl rfl (sI_ok (fun _ => rfl)) dX12_recovery_6 ?_
  refine zx_aload_n C dX12_recovery_9 0 rfl ?_
  obtain ⟨a8, h9, hm⟩ := osm_e hm
  refine zx_get (j := 8) C tC_11 k6 i7 ⟨by decide, Or.inl W_6_227⟩ dX12_recovery_10 (.ref a8) (rf_s h9) ?_
  refine zx_iconst (v := 0) C dX12_recovery_13 (by decide) ?_
  obtain ⟨n12, k10, i11, hm⟩ := ckR_e hm
  obtain ⟨h13, hm⟩ := ckI_e hm
  refine zx_iald C k10 i11 h13 dX12_recovery_14 ?_
  refine zx_iconst (v := 1) C dX12_recovery_15 (by decide) ?_
  refine zx_icmp_ne C 28 dX12_recovery_16 (by decide) (fun c14 => ?_) (fun c14 => ?_)
  · replace hm := in_e hm c14
    refine zx_iconst (v := 0) C dX12_recovery_28 (by decide) ?_
    exact zx_lv [0] [(0, .ref (a0))] rfl (j_X12_recovery_29 C htab hin    hm)
  · replace hm := ip_e hm c14
    refine zx_aload_n C dX12_recovery_19 0 rfl ?_
    obtain ⟨a148, h149, hm⟩ := osm_e hm
    refine zx_get (j := 9) C tC_11 k6 i7 ⟨by decide, Or.inl W_6_228⟩ dX12_recovery_20 (.ref a148) (rf_s h149) ?_
    refine zx_iconst (v := 0) C dX12_recovery_23 (by decide) ?_
    obtain ⟨n152, k150, i151, hm⟩ := ckR_e hm
    obtain ⟨h153, hm⟩ := ckI_e hm
    refine zx_iald C k150 i151 h153 dX12_recovery_24 ?_
    refine zx_goto C 29 dX12_recovery_25 (by decide) ?_
    exact zx_lv [0] [(0, .ref (a0))] rfl (j_X12_recovery_29 C htab hin    hm)
abbrev cX12_upAhead : ByteArray := prog_13_method_71_code
def yX12_upAhead : MethodName := ⟨"SyncTreeModel", "upAhead", "()V"⟩
theorem Y_X12_upAhead : tY yX12_upAhead cX12_upAhead 1 none 0 := ⟨W_7_178, W_1_14, ⟨by decide +kernel, by decide +kernel⟩, by decide +kernel⟩
theorem dX12_upAhead_0 : decode cX12_upAhead 0 = .ok (.aload_n 0, 1) := by decide +kernel
theorem dX12_upAhead_1 : decode cX12_upAhead 1 = .ok (.invokevirtual 403, 3) := by decide +kernel
theorem dX12_upAhead_4 : decode cX12_upAhead 4 = .ok (.aload_n 0, 1) := by decide +kernel
theorem dX12_upAhead_5 : decode cX12_upAhead 5 = .ok (.invokevirtual 406, 3) := by decide +kernel
theorem dX12_upAhead_8 : decode cX12_upAhead 8 = .ok (.return_, 1) := by decide +kernel
set_option maxRecDepth 100000 in
set_option maxHeartbeats 1000000 in
theorem c_X12_upAhead {l : Launch} {D : va_G} {aC : Nat → ClassId} {b0 fu : Nat} {a0 : Nat} {σ τ : tM} {v : (Unit) ⊕ Unit} (hm : m_X12_upAhead b0 fu a0 σ = some (v, τ)) : tMt l D aC b0 yX12_upAhead (Cond.code yX12_upAhead cX12_upAhead 1 none) 8 180 [.ref (a0)] σ (rxV "SyncTreeModel$Off" v) τ := by
  unfold m_X12_upAhead at hm
  obtain ⟨hg, hm⟩ := grw_e hm
  refine tMt_of (n := 0) rfl (Nat.le_of_ble_eq_true rfl) hg ?_
  intro p e s m below meth c C htab hin
  refine zx_lv [0] [(0, .ref (a0))] rfl ?_
  refine zx_aload_n C dX12_upAhead_0 0 rfl ?_
  obtain ⟨k1, i2, hm⟩ := ckO_e hm
  rcases clx_e hm with ⟨v3, ρ4, h5, hm⟩ | ⟨ρ4, h5, hm⟩
  · refine zx_callV (σ := σ) C [] tC_11 k1 i2 Y_X12_up W_7_179 W_7_181 Wp_57 (c_X12_up h5) (by decide) (by decide) rfl (Nat.le_of_ble_eq_true rfl) dX12_upAhead_1 rfl ?_
    refine zx_aload_n C dX12_upAhead_4 0 rfl ?_
    obtain ⟨k6, i7, hm⟩ := ckO_e hm
    rcases clx_e hm with ⟨v8, ρ9, h10, hm⟩ | ⟨ρ9, h10, hm⟩
    · refine zx_callV (σ := ρ4) C [] tC_11 k6 i7 Y_X12_postAhead W_7_185 W_7_187 Wp_58 (c_X12_postAhead h10) (by decide) (by decide) rfl (Nat.le_of_ble_eq_true rfl) dX12_upAhead_5 rfl ?_
      obtain ⟨rfl, rfl⟩ := ret_e hm
      exact zx_vret C rfl rfl rfl dX12_upAhead_8
    · cases hm
      exact zx_outV (σ := ρ4) C htab [] tC_11 k6 i7 Y_X12_postAhead W_7_185 W_7_187 Wp_58 (c_X12_postAhead h10) rfl (by decide) (by decide) rfl (Nat.le_of_ble_eq_true rfl) dX12_upAhead_5 rfl
  · cases hm
    exact zx_outV (σ := σ) C htab [] tC_11 k1 i2 Y_X12_up W_7_179 W_7_181 Wp_57 (c_X12_up h5) rfl (by decide) (by decide) rfl (Nat.le_of_ble_eq_true rfl) dX12_upAhead_1 rfl
