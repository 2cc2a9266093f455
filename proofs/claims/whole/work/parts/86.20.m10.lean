abbrev cX5_readMap : ByteArray := prog_7_method_5_code
def yX5_readMap : MethodName := ⟨"SyncTree$Space", "readMap", "()V"⟩
theorem Y_X5_readMap : tY yX5_readMap cX5_readMap 4 none 0 := ⟨W_2_139, W_1_3, ⟨by decide +kernel, by decide +kernel⟩, by decide +kernel⟩
theorem dX5_readMap_0 : decode cX5_readMap 0 = .ok (.aload_n 0, 1) := by decide +kernel
theorem dX5_readMap_1 : decode cX5_readMap 1 = .ok (.invokevirtual 36, 3) := by decide +kernel
theorem dX5_readMap_4 : decode cX5_readMap 4 = .ok (.aload_n 0, 1) := by decide +kernel
theorem dX5_readMap_5 : decode cX5_readMap 5 = .ok (.iconst 0, 1) := by decide +kernel
theorem dX5_readMap_6 : decode cX5_readMap 6 = .ok (.putfield 84, 3) := by decide +kernel
theorem dX5_readMap_9 : decode cX5_readMap 9 = .ok (.aload_n 0, 1) := by decide +kernel
theorem dX5_readMap_10 : decode cX5_readMap 10 = .ok (.iconst 0, 1) := by decide +kernel
theorem dX5_readMap_11 : decode cX5_readMap 11 = .ok (.putfield 87, 3) := by decide +kernel
theorem dX5_readMap_14 : decode cX5_readMap 14 = .ok (.aload_n 0, 1) := by decide +kernel
theorem dX5_readMap_15 : decode cX5_readMap 15 = .ok (.bipush 34, 2) := by decide +kernel
theorem dX5_readMap_17 : decode cX5_readMap 17 = .ok (.putfield 90, 3) := by decide +kernel
theorem dX5_readMap_20 : decode cX5_readMap 20 = .ok (.bipush 34, 2) := by decide +kernel
theorem dX5_readMap_22 : decode cX5_readMap 22 = .ok (.istore_n 1, 1) := by decide +kernel
theorem dX5_readMap_23 : decode cX5_readMap 23 = .ok (.iload_n 1, 1) := by decide +kernel
theorem dX5_readMap_24 : decode cX5_readMap 24 = .ok (.aload_n 0, 1) := by decide +kernel
theorem dX5_readMap_25 : decode cX5_readMap 25 = .ok (.getfield 48, 3) := by decide +kernel
theorem dX5_readMap_28 : decode cX5_readMap 28 = .ok (.if_icmp .ge 74, 3) := by decide +kernel
theorem dX5_readMap_31 : decode cX5_readMap 31 = .ok (.iload_n 1, 1) := by decide +kernel
theorem dX5_readMap_32 : decode cX5_readMap 32 = .ok (.bipush 34, 2) := by decide +kernel
theorem dX5_readMap_34 : decode cX5_readMap 34 = .ok (.isub, 1) := by decide +kernel
theorem dX5_readMap_35 : decode cX5_readMap 35 = .ok (.istore_n 2, 1) := by decide +kernel
theorem dX5_readMap_36 : decode cX5_readMap 36 = .ok (.aload_n 0, 1) := by decide +kernel
theorem dX5_readMap_37 : decode cX5_readMap 37 = .ok (.iconst 1, 1) := by decide +kernel
theorem dX5_readMap_38 : decode cX5_readMap 38 = .ok (.iload_n 2, 1) := by decide +kernel
theorem dX5_readMap_39 : decode cX5_readMap 39 = .ok (.bipush 6, 2) := by decide +kernel
theorem dX5_readMap_41 : decode cX5_readMap 41 = .ok (.ishr, 1) := by decide +kernel
theorem dX5_readMap_42 : decode cX5_readMap 42 = .ok (.invokevirtual 93, 3) := by decide +kernel
theorem dX5_readMap_45 : decode cX5_readMap 45 = .ok (.iload_n 2, 1) := by decide +kernel
theorem dX5_readMap_46 : decode cX5_readMap 46 = .ok (.bipush 63, 2) := by decide +kernel
theorem dX5_readMap_48 : decode cX5_readMap 48 = .ok (.iand, 1) := by decide +kernel
theorem dX5_readMap_49 : decode cX5_readMap 49 = .ok (.lushr, 1) := by decide +kernel
theorem dX5_readMap_50 : decode cX5_readMap 50 = .ok (.lconst 1, 1) := by decide +kernel
theorem dX5_readMap_51 : decode cX5_readMap 51 = .ok (.land, 1) := by decide +kernel
theorem dX5_readMap_52 : decode cX5_readMap 52 = .ok (.lconst 0, 1) := by decide +kernel
theorem dX5_readMap_53 : decode cX5_readMap 53 = .ok (.lcmp, 1) := by decide +kernel
theorem dX5_readMap_54 : decode cX5_readMap 54 = .ok (.ifCond .eq 7, 3) := by decide +kernel
theorem dX5_readMap_57 : decode cX5_readMap 57 = .ok (.iconst 1, 1) := by decide +kernel
theorem dX5_readMap_58 : decode cX5_readMap 58 = .ok (.goto 4, 3) := by decide +kernel
theorem dX5_readMap_61 : decode cX5_readMap 61 = .ok (.iconst 0, 1) := by decide +kernel
theorem dX5_readMap_62 : decode cX5_readMap 62 = .ok (.istore_n 3, 1) := by decide +kernel
theorem dX5_readMap_63 : decode cX5_readMap 63 = .ok (.aload_n 0, 1) := by decide +kernel
theorem dX5_readMap_64 : decode cX5_readMap 64 = .ok (.getfield 16, 3) := by decide +kernel
theorem dX5_readMap_67 : decode cX5_readMap 67 = .ok (.iload_n 1, 1) := by decide +kernel
theorem dX5_readMap_68 : decode cX5_readMap 68 = .ok (.iload_n 3, 1) := by decide +kernel
theorem dX5_readMap_69 : decode cX5_readMap 69 = .ok (.ifCond .eq 7, 3) := by decide +kernel
theorem dX5_readMap_72 : decode cX5_readMap 72 = .ok (.iconst (-1), 1) := by decide +kernel
theorem dX5_readMap_73 : decode cX5_readMap 73 = .ok (.goto 4, 3) := by decide +kernel
theorem dX5_readMap_76 : decode cX5_readMap 76 = .ok (.iconst 0, 1) := by decide +kernel
theorem dX5_readMap_77 : decode cX5_readMap 77 = .ok (.iastore, 1) := by decide +kernel
theorem dX5_readMap_78 : decode cX5_readMap 78 = .ok (.aload_n 0, 1) := by decide +kernel
theorem dX5_readMap_79 : decode cX5_readMap 79 = .ok (.dup, 1) := by decide +kernel
theorem dX5_readMap_80 : decode cX5_readMap 80 = .ok (.getfield 84, 3) := by decide +kernel
theorem dX5_readMap_83 : decode cX5_readMap 83 = .ok (.iload_n 3, 1) := by decide +kernel
theorem dX5_readMap_84 : decode cX5_readMap 84 = .ok (.ifCond .eq 7, 3) := by decide +kernel
theorem dX5_readMap_87 : decode cX5_readMap 87 = .ok (.iconst 0, 1) := by decide +kernel
theorem dX5_readMap_88 : decode cX5_readMap 88 = .ok (.goto 4, 3) := by decide +kernel
theorem dX5_readMap_91 : decode cX5_readMap 91 = .ok (.iconst 1, 1) := by decide +kernel
theorem dX5_readMap_92 : decode cX5_readMap 92 = .ok (.iadd, 1) := by decide +kernel
theorem dX5_readMap_93 : decode cX5_readMap 93 = .ok (.putfield 84, 3) := by decide +kernel
theorem dX5_readMap_96 : decode cX5_readMap 96 = .ok (.iinc 1 1, 3) := by decide +kernel
theorem dX5_readMap_99 : decode cX5_readMap 99 = .ok (.goto (-76), 3) := by decide +kernel
theorem dX5_readMap_102 : decode cX5_readMap 102 = .ok (.return_, 1) := by decide +kernel
set_option maxRecDepth 100000 in
set_option maxHeartbeats 1000000 in
theorem j_X5_readMap_92 {p : Program} {l : Launch} {e : Env} {s : State} {m : MethodId} {args : Array Value} {below : List Frame} {meth : Method} {c : Code} {D : va_G} {aC : Nat → ClassId} {b0 fu : Nat} {σ0 τ : tM} {v : Unit} {rc23 : Nat → Int32 → tM → Option ((Unit) × tM)} (C : tCx p l s m args meth c yX5_readMap.cls cX5_readMap 4 none D aC b0 σ0) (htab : ∀ x ∈ c.exceptionTable.toList, False) (hin : meth.name = yX5_readMap.name) (hrc23 : ∀ (x0 : Nat) (x1 : Int32) (ρ : tM), rc23 x0 x1 ρ = some (v, τ) → tX p l e s m args below meth c 4 2 43 D aC b0 σ0 (.inl none) τ 23 [(0, .ref (x0)), (1, .int (x1))] [] ρ) {x0 : Nat} {x1 : Int32} {s0 : Nat} {s1 : Int32} {s2 : Int32} {σ : tM} (hm : J_X5_readMap_92 b0 fu rc23 x0 x1 s0 s1 s2 σ = some (v, τ)) : tX p l e s m args below meth c 4 2 43 D aC b0 σ0 (.inl none) τ 92 [(0, .ref (x0)), (1, .int (x1))] [.int (s2), .int (s1), .ref (s0)] σ := by
  unfold J_X5_readMap_92 at hm
  refine zx_iadd C dX5_readMap_92 ?_
  obtain ⟨k28, i29, hm⟩ := ckO_e hm
  refine zx_put (j := 9) (ρ := sI (σ) (s0) 9 ((s1) + (s2))) C tC_5 k28 i29 ⟨by decide, Or.inl W_1_107⟩ rfl rfl rfl (sI_ok (fun _ => rfl)) dX5_readMap_93 ?_
  obtain ⟨y30, hy30⟩ : ∃ z : Int32, z = (x1) + Int32.ofInt 1 := ⟨_, rfl⟩
  replace hm := ltb_e hm hy30
  refine zx_iinc C [(1, .int (y30)), (0, .ref (x0))] dX5_readMap_96 1 rfl hy30.symm (by decide) rfl ?_
  refine zx_goto C 23 dX5_readMap_99 (by decide) ?_
  exact zx_lv [1, 0] [(0, .ref (x0)), (1, .int (y30))] rfl (hrc23 _ _ _ hm)
set_option maxRecDepth 100000 in
set_option maxHeartbeats 1000000 in
theorem j_X5_readMap_77 {p : Program} {l : Launch} {e : Env} {s : State} {m : MethodId} {args : Array Value} {below : List Frame} {meth : Method} {c : Code} {D : va_G} {aC : Nat → ClassId} {b0 fu : Nat} {σ0 τ : tM} {v : Unit} {rc23 : Nat → Int32 → tM → Option ((Unit) × tM)} (C : tCx p l s m args meth c yX5_readMap.cls cX5_readMap 4 none D aC b0 σ0) (htab : ∀ x ∈ c.exceptionTable.toList, False) (hin : meth.name = yX5_readMap.name) (hrc23 : ∀ (x0 : Nat) (x1 : Int32) (ρ : tM), rc23 x0 x1 ρ = some (v, τ) → tX p l e s m args below meth c 4 2 43 D aC b0 σ0 (.inl none) τ 23 [(0, .ref (x0)), (1, .int (x1))] [] ρ) {x0 : Nat} {x1 : Int32} {x3 : Int32} {s0 : Nat} {s1 : Int32} {s2 : Int32} {σ : tM} (hm : J_X5_readMap_77 b0 fu rc23 x0 x1 x3 s0 s1 s2 σ = some (v, τ)) : tX p l e s m args below meth c 4 2 43 D aC b0 σ0 (.inl none) τ 77 [(0, .ref (x0)), (1, .int (x1)), (3, .int (x3))] [.int (s2), .int (s1), .ref (s0)] σ := by
  unfold J_X5_readMap_77 at hm
  obtain ⟨n23, k21, i22, hm⟩ := ckR_e hm
  obtain ⟨h24, hm⟩ := ckI_e hm
  refine zx_iast C k21 i22 h24 dX5_readMap_77 ?_
  refine zx_aload_n C dX5_readMap_78 0 rfl ?_
  refine zx_dup C dX5_readMap_79 rfl ?_
  obtain ⟨k25, i26, hm⟩ := ckO_e hm
  refine zx_get (j := 9) C tC_5 k25 i26 ⟨by decide, Or.inl W_1_107⟩ dX5_readMap_80 (.int (tI (sI (σ) (s0) ((s1).toNatClampNeg) (s2)) (x0) 9)) rfl ?_
  refine zx_iload_n C dX5_readMap_83 2 rfl ?_
  refine zx_if_eq C 91 dX5_readMap_84 (by decide) (fun c27 => ?_) (fun c27 => ?_)
  · replace hm := ip_e hm c27
    refine zx_iconst (v := 1) C dX5_readMap_91 (by decide) ?_
    exact zx_lv [0, 1] [(0, .ref (x0)), (1, .int (x1))] rfl (j_X5_readMap_92 C htab hin hrc23   hm)
  · replace hm := in_e hm c27
    refine zx_iconst (v := 0) C dX5_readMap_87 (by decide) ?_
    refine zx_goto C 92 dX5_readMap_88 (by decide) ?_
    exact zx_lv [0, 1] [(0, .ref (x0)), (1, .int (x1))] rfl (j_X5_readMap_92 C htab hin hrc23   hm)
set_option maxRecDepth 100000 in
set_option maxHeartbeats 1000000 in
theorem j_X5_readMap_62 {p : Program} {l : Launch} {e : Env} {s : State} {m : MethodId} {args : Array Value} {below : List Frame} {meth : Method} {c : Code} {D : va_G} {aC : Nat → ClassId} {b0 fu : Nat} {σ0 τ : tM} {v : Unit} {rc23 : Nat → Int32 → tM → Option ((Unit) × tM)} (C : tCx p l s m args meth c yX5_readMap.cls cX5_readMap 4 none D aC b0 σ0) (htab : ∀ x ∈ c.exceptionTable.toList, False) (hin : meth.name = yX5_readMap.name) (hrc23 : ∀ (x0 : Nat) (x1 : Int32) (ρ : tM), rc23 x0 x1 ρ = some (v, τ) → tX p l e s m args below meth c 4 2 43 D aC b0 σ0 (.inl none) τ 23 [(0, .ref (x0)), (1, .int (x1))] [] ρ) {x0 : Nat} {x1 : Int32} {s0 : Int32} {σ : tM} (hm : J_X5_readMap_62 b0 fu rc23 x0 x1 s0 σ = some (v, τ)) : tX p l e s m args below meth c 4 2 43 D aC b0 σ0 (.inl none) τ 62 [(0, .ref (x0)), (1, .int (x1))] [.int (s0)] σ := by
  unfold J_X5_readMap_62 at hm
  refine zx_istore_n C [(3, .int (s0)), (0, .ref (x0)), (1, .int (x1))] dX5_readMap_62 rfl (by decide) rfl ?_
  refine zx_aload_n C dX5_readMap_63 1 rfl ?_
  obtain ⟨k16, i17, hm⟩ := ckO_e hm
  obtain ⟨a18, h19, hm⟩ := osm_e hm
  refine zx_get (j := 1) C tC_5 k16 i17 ⟨by decide, Or.inl W_1_97⟩ dX5_readMap_64 (.ref a18) (rf_s h19) ?_
  refine zx_iload_n C dX5_readMap_67 2 rfl ?_
  refine zx_iload_n C dX5_readMap_68 0 rfl ?_
  refine zx_if_eq C 76 dX5_readMap_69 (by decide) (fun c20 => ?_) (fun c20 => ?_)
  · replace hm := ip_e hm c20
    refine zx_iconst (v := 0) C dX5_readMap_76 (by decide) ?_
    exact zx_lv [1, 2, 0] [(0, .ref (x0)), (1, .int (x1)), (3, .int (s0))] rfl (j_X5_readMap_77 C htab hin hrc23   hm)
  · replace hm := in_e hm c20
    refine zx_iconst (v := (-1)) C dX5_readMap_72 (by decide) ?_
    refine zx_goto C 77 dX5_readMap_73 (by decide) ?_
    exact zx_lv [1, 2, 0] [(0, .ref (x0)), (1, .int (x1)), (3, .int (s0))] rfl (j_X5_readMap_77 C htab hin hrc23   hm)
set_option maxRecDepth 100000 in
set_option maxHeartbeats 1000000 in
theorem l_X5_readMap_23 {p : Program} {l : Launch} {e : Env} {s : State} {m : MethodId} {args : Array Value} {below : List Frame} {meth : Method} {c : Code} {D : va_G} {aC : Nat → ClassId} {b0 fu : Nat} {σ0 τ : tM} {v : Unit}  (C : tCx p l s m args meth c yX5_readMap.cls cX5_readMap 4 none D aC b0 σ0) (htab : ∀ x ∈ c.exceptionTable.toList, False) (hin : meth.name = yX5_readMap.name)  : ∀ (n : Nat) (x0 : Nat) (x1 : Int32) (σ : tM), L_X5_readMap_23 b0 fu  n x0 x1 σ = some (v, τ) → tX p l e s m args below meth c 4 2 43 D aC b0 σ0 (.inl none) τ 23 [(0, .ref (x0)), (1, .int (x1))] [] σ := by
  intro n
  induction n with
  | zero => intro x0 x1 σ hm; unfold L_X5_readMap_23 at hm; cases hm
  | succ n ih =>
    intro x0 x1 σ hm
    unfold L_X5_readMap_23 at hm
    obtain ⟨rc23, hrc⟩ : ∃ z, z = L_X5_readMap_23 b0 fu  n := ⟨_, rfl⟩
    replace hm := ltb_e hm hrc
    rw [← hrc] at ih
    have hrc23 := ih
    clear ih hrc
    refine zx_iload_n C dX5_readMap_23 1 rfl ?_
    refine zx_aload_n C dX5_readMap_24 0 rfl ?_
    obtain ⟨k8, i9, hm⟩ := ckO_e hm
    refine zx_get (j := 7) C tC_5 k8 i9 ⟨by decide, Or.inl W_1_104⟩ dX5_readMap_25 (.int (tI (σ) (x0) 7)) rfl ?_
    refine zx_icmp_ge C 102 dX5_readMap_28 (by decide) (fun c10 => ?_) (fun c10 => ?_)
    · replace hm := ip_e hm c10
      obtain ⟨rfl, rfl⟩ := ret_e hm
      exact zx_vret C rfl rfl rfl dX5_readMap_102
    · replace hm := in_e hm c10
      refine zx_iload_n C dX5_readMap_31 1 rfl ?_
      refine zx_bipush (v := 34) C dX5_readMap_32 (by decide) ?_
      refine zx_isub C dX5_readMap_34 ?_
      refine zx_topi (fun y11 hy11 => ?_)
      replace hm := ltb_e hm hy11
      refine zx_istore_n C [(2, .int (y11)), (0, .ref (x0)), (1, .int (x1))] dX5_readMap_35 rfl (by decide) rfl ?_
      refine zx_aload_n C dX5_readMap_36 1 rfl ?_
      refine zx_iconst (v := 1) C dX5_readMap_37 (by decide) ?_
      refine zx_iload_n C dX5_readMap_38 0 rfl ?_
      refine zx_bipush (v := 6) C dX5_readMap_39 (by decide) ?_
      refine zx_ishr C dX5_readMap_41 ?_
      obtain ⟨v12, ρ13, h14, hm⟩ := cll_e hm
      refine zx_callV (σ := σ) C [.int (1), .int ((y11) >>> (((6 : Int32)) &&& 31))] tC_5 k8 i9 Y_X5_word W_2_140 W_2_141 W_2_142 (c_X5_word h14) (by decide) (by decide) rfl (Nat.le_of_ble_eq_true rfl) dX5_readMap_42 rfl ?_
      refine zx_iload_n C dX5_readMap_45 0 rfl ?_
      refine zx_bipush (v := 63) C dX5_readMap_46 (by decide) ?_
      refine zx_iand C dX5_readMap_48 ?_
      refine zx_lushr C dX5_readMap_49 ?_
      refine zx_lconst (v := 1) C dX5_readMap_50 (by decide) ?_
      refine zx_land C dX5_readMap_51 ?_
      refine zx_lconst (v := 0) C dX5_readMap_52 (by decide) ?_
      refine zx_lcmp C dX5_readMap_53 ?_
      refine zx_if_eq C 61 dX5_readMap_54 (by decide) (fun c15 => ?_) (fun c15 => ?_)
      · replace hm := ip_e hm c15
        refine zx_iconst (v := 0) C dX5_readMap_61 (by decide) ?_
        exact zx_lv [1, 2] [(0, .ref (x0)), (1, .int (x1))] rfl (j_X5_readMap_62 C htab hin hrc23   hm)
      · replace hm := in_e hm c15
        refine zx_iconst (v := 1) C dX5_readMap_57 (by decide) ?_
        refine zx_goto C 62 dX5_readMap_58 (by decide) ?_
        exact zx_lv [1, 2] [(0, .ref (x0)), (1, .int (x1))] rfl (j_X5_readMap_62 C htab hin hrc23   hm)
set_option maxRecDepth 100000 in
set_option maxHeartbeats 1000000 in
theorem c_X5_readMap {l : Launch} {D : va_G} {aC : Nat → ClassId} {b0 fu : Nat} {a0 : Nat} {σ τ : tM} {v : Unit} (hm : m_X5_readMap b0 fu a0 σ = some (v, τ)) : tMt l D aC b0 yX5_readMap (Cond.code yX5_readMap cX5_readMap 4 none) 2 43 [.ref (a0)] σ (.inl none) τ := by
  unfold m_X5_readMap at hm
  obtain ⟨hg, hm⟩ := grw_e hm
  refine tMt_of (n := 0) rfl (Nat.le_of_ble_eq_true rfl) hg ?_
  intro p e s m below meth c C htab hin
  refine zx_lv [0] [(0, .ref (a0))] rfl ?_
  refine zx_aload_n C dX5_readMap_0 0 rfl ?_
  obtain ⟨k1, i2, hm⟩ := ckO_e hm
  obtain ⟨v3, ρ4, h5, hm⟩ := cll_e hm
  refine zx_callV (σ := σ) C [] tC_5 k1 i2 Y_X5_forgetMarks W_2_115 W_2_117 Wp_4 (c_X5_forgetMarks h5) (by decide) (by decide) rfl (Nat.le_of_ble_eq_true rfl) dX5_readMap_1 rfl ?_
  refine zx_aload_n C dX5_readMap_4 0 rfl ?_
  refine zx_iconst (v := 0) C dX5_readMap_5 (by decide) ?_
  obtain ⟨k6, i7, hm⟩ := ckO_e hm
  refine zx_put (j := 9) (ρ := sI (ρ4) (a0) 9 (0)) C tC_5 k6 i7 ⟨by decide, Or.inl W_1_107⟩ rfl rfl rfl (sI_ok (fun _ => rfl)) dX5_readMap_6 ?_
  refine zx_aload_n C dX5_readMap_9 0 rfl ?_
  refine zx_iconst (v := 0) C dX5_readMap_10 (by decide) ?_
  refine zx_put (j := 10) (ρ := sI (sI (ρ4) (a0) 9 (0)) (a0) 10 (0)) C tC_5 k6 i7 ⟨by decide, Or.inl W_1_110⟩ rfl rfl rfl (sI_ok (fun _ => rfl)) dX5_readMap_11 ?_
  refine zx_aload_n C dX5_readMap_14 0 rfl ?_
  refine zx_bipush (v := 34) C dX5_readMap_15 (by decide) ?_
  refine zx_put (j := 14) (ρ := sI (sI (sI (ρ4) (a0) 9 (0)) (a0) 10 (0)) (a0) 14 (34)) C tC_5 k6 i7 ⟨by decide, Or.inl W_1_117⟩ rfl rfl rfl (sI_ok (fun _ => rfl)) dX5_readMap_17 ?_
  refine zx_bipush (v := 34) C dX5_readMap_20 (by decide) ?_
  refine zx_istore_n C [(1, .int (34)), (0, .ref (a0))] dX5_readMap_22 rfl (by decide) rfl ?_
  exact zx_lv [1, 0] [(0, .ref (a0)), (1, .int (34))] rfl (l_X5_readMap_23 C htab hin  _ _ _ _ hm)
abbrev cX5_setWord : ByteArray := prog_7_method_13_code
def yX5_setWord : MethodName := ⟨"SyncTree$Space", "setWord", "(IIJ)V"⟩
theorem Y_X5_setWord : tY yX5_setWord cX5_setWord 5 none 3 := ⟨W_4_219, W_1_3, ⟨by decide +kernel, by decide +kernel⟩, by decide +kernel⟩
theorem dX5_setWord_0 : decode cX5_setWord 0 = .ok (.iload_n 1, 1) := by decide +kernel
theorem dX5_setWord_1 : decode cX5_setWord 1 = .ok (.ifCond .le 38, 3) := by decide +kernel
theorem dX5_setWord_4 : decode cX5_setWord 4 = .ok (.iload_n 1, 1) := by decide +kernel
theorem dX5_setWord_5 : decode cX5_setWord 5 = .ok (.aload_n 0, 1) := by decide +kernel
theorem dX5_setWord_6 : decode cX5_setWord 6 = .ok (.getfield 48, 3) := by decide +kernel
theorem dX5_setWord_9 : decode cX5_setWord 9 = .ok (.if_icmp .ge 30, 3) := by decide +kernel
theorem dX5_setWord_12 : decode cX5_setWord 12 = .ok (.iload_n 2, 1) := by decide +kernel
theorem dX5_setWord_13 : decode cX5_setWord 13 = .ok (.ifCond .lt 26, 3) := by decide +kernel
theorem dX5_setWord_16 : decode cX5_setWord 16 = .ok (.iload_n 2, 1) := by decide +kernel
theorem dX5_setWord_17 : decode cX5_setWord 17 = .ok (.bipush 32, 2) := by decide +kernel
theorem dX5_setWord_19 : decode cX5_setWord 19 = .ok (.if_icmp .ge 20, 3) := by decide +kernel
theorem dX5_setWord_22 : decode cX5_setWord 22 = .ok (.aload_n 0, 1) := by decide +kernel
theorem dX5_setWord_23 : decode cX5_setWord 23 = .ok (.getfield 10, 3) := by decide +kernel
theorem dX5_setWord_26 : decode cX5_setWord 26 = .ok (.iload_n 1, 1) := by decide +kernel
theorem dX5_setWord_27 : decode cX5_setWord 27 = .ok (.bipush 32, 2) := by decide +kernel
theorem dX5_setWord_29 : decode cX5_setWord 29 = .ok (.imul, 1) := by decide +kernel
theorem dX5_setWord_30 : decode cX5_setWord 30 = .ok (.iload_n 2, 1) := by decide +kernel
theorem dX5_setWord_31 : decode cX5_setWord 31 = .ok (.iadd, 1) := by decide +kernel
theorem dX5_setWord_32 : decode cX5_setWord 32 = .ok (.lload_n 3, 1) := by decide +kernel
theorem dX5_setWord_33 : decode cX5_setWord 33 = .ok (.lastore, 1) := by decide +kernel
theorem dX5_setWord_34 : decode cX5_setWord 34 = .ok (.aload_n 0, 1) := by decide +kernel
theorem dX5_setWord_35 : decode cX5_setWord 35 = .ok (.iload_n 1, 1) := by decide +kernel
theorem dX5_setWord_36 : decode cX5_setWord 36 = .ok (.invokevirtual 97, 3) := by decide +kernel
theorem dX5_setWord_39 : decode cX5_setWord 39 = .ok (.return_, 1) := by decide +kernel
set_option maxRecDepth 100000 in
set_option maxHeartbeats 1000000 in
theorem j_X5_setWord_39 {p : Program} {l : Launch} {e : Env} {s : State} {m : MethodId} {args : Array Value} {below : List Frame} {meth : Method} {c : Code} {D : va_G} {aC : Nat → ClassId} {b0 fu : Nat} {σ0 τ : tM} {v : Unit}  (C : tCx p l s m args meth c yX5_setWord.cls cX5_setWord 5 none D aC b0 σ0) (htab : ∀ x ∈ c.exceptionTable.toList, False) (hin : meth.name = yX5_setWord.name)   {σ : tM} (hm : J_X5_setWord_39 b0 fu   σ = some (v, τ)) : tX p l e s m args below meth c 5 1 21 D aC b0 σ0 (.inl none) τ 39 [] [] σ := by
  unfold J_X5_setWord_39 at hm
  obtain ⟨rfl, rfl⟩ := ret_e hm
  exact zx_vret C rfl rfl rfl dX5_setWord_39
set_option maxRecDepth 100000 in
set_option maxHeartbeats 1000000 in
theorem c_X5_setWord {l : Launch} {D : va_G} {aC : Nat → ClassId} {b0 fu : Nat} {a0 : Nat} {p0 : Int32} {p1 : Int32} {p2 : Int64} {σ τ : tM} {v : Unit} (hm : m_X5_setWord b0 fu a0 p0 p1 p2 σ = some (v, τ)) : tMt l D aC b0 yX5_setWord (Cond.code yX5_setWord cX5_setWord 5 none) 1 21 [.ref (a0), .int (p0), .int (p1), .long (p2)] σ (.inl none) τ := by
  unfold m_X5_setWord at hm
  obtain ⟨hg, hm⟩ := grw_e hm
  refine tMt_of (n := 0) rfl (Nat.le_of_ble_eq_true rfl) hg ?_
  intro p e s m below meth c C htab hin
  refine zx_lv [0, 1, 2, 3] [(0, .ref (a0)), (1, .int (p0)), (2, .int (p1)), (3, .long (p2))] rfl ?_
  refine zx_iload_n C dX5_setWord_0 1 rfl ?_
  refine zx_if_le C 39 dX5_setWord_1 (by decide) (fun c1 => ?_) (fun c1 => ?_)
  · replace hm := ip_e hm c1
    exact zx_lv [] [] rfl (j_X5_setWord_39 C htab hin    hm)
  · replace hm := in_e hm c1
    refine zx_iload_n C dX5_setWord_4 1 rfl ?_
    refine zx_aload_n C dX5_setWord_5 0 rfl ?_
    obtain ⟨k2, i3, hm⟩ := ckO_e hm
    refine zx_get (j := 7) C tC_5 k2 i3 ⟨by decide, Or.inl W_1_104⟩ dX5_setWord_6 (.int (tI (σ) (a0) 7)) rfl ?_
    refine zx_icmp_ge C 39 dX5_setWord_9 (by decide) (fun c4 => ?_) (fun c4 => ?_)
    · replace hm := ip_e hm c4
      exact zx_lv [] [] rfl (j_X5_setWord_39 C htab hin    hm)
    · replace hm := in_e hm c4
      refine zx_iload_n C dX5_setWord_12 2 rfl ?_
      refine zx_if_lt C 39 dX5_setWord_13 (by decide) (fun c5 => ?_) (fun c5 => ?_)
      · replace hm := ip_e hm c5
        exact zx_lv [] [] rfl (j_X5_setWord_39 C htab hin    hm)
      · replace hm := in_e hm c5
        refine zx_iload_n C dX5_setWord_16 2 rfl ?_
        refine zx_bipush (v := 32) C dX5_setWord_17 (by decide) ?_
        refine zx_icmp_ge C 39 dX5_setWord_19 (by decide) (fun c6 => ?_) (fun c6 => ?_)
        · replace hm := ip_e hm c6
          exact zx_lv [] [] rfl (j_X5_setWord_39 C htab hin    hm)
        · replace hm := in_e hm c6
          refine zx_aload_n C dX5_setWord_22 0 rfl ?_
          obtain ⟨a7, h8, hm⟩ := osm_e hm
          refine zx_get (j := 0) C tC_5 k2 i3 ⟨by decide, Or.inl W_1_94⟩ dX5_setWord_23 (.ref a7) (rf_s h8) ?_
          refine zx_iload_n C dX5_setWord_26 1 rfl ?_
          refine zx_bipush (v := 32) C dX5_setWord_27 (by decide) ?_
          refine zx_imul C dX5_setWord_29 ?_
          refine zx_iload_n C dX5_setWord_30 2 rfl ?_
          refine zx_iadd C dX5_setWord_31 ?_
          refine zx_lload_n C dX5_setWord_32 3 rfl ?_
          obtain ⟨n11, k9, i10, hm⟩ := ckR_e hm
          obtain ⟨h12, hm⟩ := ckI_e hm
          refine zx_last C k9 i10 h12 dX5_setWord_33 ?_
          refine zx_aload_n C dX5_setWord_34 0 rfl ?_
          refine zx_iload_n C dX5_setWord_35 1 rfl ?_
          obtain ⟨v13, ρ14, h15, hm⟩ := cll_e hm
          refine zx_callV (σ := sL (σ) (a7) ((((p0) * (32)) + (p1)).toNatClampNeg) (p2)) C [.int (p0)] tC_5 k2 i3 Y_X5_touch W_4_215 W_2_157 W_2_158 (c_X5_touch h15) (by decide) (by decide) rfl (Nat.le_of_ble_eq_true rfl) dX5_setWord_36 rfl ?_
          exact zx_lv [] [] rfl (j_X5_setWord_39 C htab hin    hm)
abbrev cX5_obtain : ByteArray := prog_7_method_23_code
def yX5_obtain : MethodName := ⟨"SyncTree$Space", "obtain", "(IZ)J"⟩
theorem Y_X5_obtain : tY yX5_obtain cX5_obtain 4 (some .long) 2 := ⟨W_4_206, W_1_3, ⟨by decide +kernel, by decide +kernel⟩, by decide +kernel⟩
theorem dX5_obtain_0 : decode cX5_obtain 0 = .ok (.aload_n 0, 1) := by decide +kernel
theorem dX5_obtain_1 : decode cX5_obtain 1 = .ok (.getfield 90, 3) := by decide +kernel
theorem dX5_obtain_4 : decode cX5_obtain 4 = .ok (.istore_n 3, 1) := by decide +kernel
theorem dX5_obtain_5 : decode cX5_obtain 5 = .ok (.iload_n 3, 1) := by decide +kernel
theorem dX5_obtain_6 : decode cX5_obtain 6 = .ok (.aload_n 0, 1) := by decide +kernel
theorem dX5_obtain_7 : decode cX5_obtain 7 = .ok (.getfield 48, 3) := by decide +kernel
theorem dX5_obtain_10 : decode cX5_obtain 10 = .ok (.if_icmp .ge 18, 3) := by decide +kernel
theorem dX5_obtain_13 : decode cX5_obtain 13 = .ok (.aload_n 0, 1) := by decide +kernel
theorem dX5_obtain_14 : decode cX5_obtain 14 = .ok (.getfield 16, 3) := by decide +kernel
theorem dX5_obtain_17 : decode cX5_obtain 17 = .ok (.iload_n 3, 1) := by decide +kernel
theorem dX5_obtain_18 : decode cX5_obtain 18 = .ok (.iaload, 1) := by decide +kernel
theorem dX5_obtain_19 : decode cX5_obtain 19 = .ok (.ifCond .eq 9, 3) := by decide +kernel
theorem dX5_obtain_22 : decode cX5_obtain 22 = .ok (.iinc 3 1, 3) := by decide +kernel
theorem dX5_obtain_25 : decode cX5_obtain 25 = .ok (.goto (-20), 3) := by decide +kernel
theorem dX5_obtain_28 : decode cX5_obtain 28 = .ok (.aload_n 0, 1) := by decide +kernel
theorem dX5_obtain_29 : decode cX5_obtain 29 = .ok (.iload_n 3, 1) := by decide +kernel
theorem dX5_obtain_30 : decode cX5_obtain 30 = .ok (.putfield 90, 3) := by decide +kernel
theorem dX5_obtain_33 : decode cX5_obtain 33 = .ok (.iload_n 3, 1) := by decide +kernel
theorem dX5_obtain_34 : decode cX5_obtain 34 = .ok (.aload_n 0, 1) := by decide +kernel
theorem dX5_obtain_35 : decode cX5_obtain 35 = .ok (.getfield 48, 3) := by decide +kernel
theorem dX5_obtain_38 : decode cX5_obtain 38 = .ok (.if_icmp .lt 5, 3) := by decide +kernel
theorem dX5_obtain_41 : decode cX5_obtain 41 = .ok (.lconst 0, 1) := by decide +kernel
theorem dX5_obtain_42 : decode cX5_obtain 42 = .ok (.lreturn, 1) := by decide +kernel
theorem dX5_obtain_43 : decode cX5_obtain 43 = .ok (.aload_n 0, 1) := by decide +kernel
theorem dX5_obtain_44 : decode cX5_obtain 44 = .ok (.dup, 1) := by decide +kernel
theorem dX5_obtain_45 : decode cX5_obtain 45 = .ok (.getfield 84, 3) := by decide +kernel
theorem dX5_obtain_48 : decode cX5_obtain 48 = .ok (.iconst 1, 1) := by decide +kernel
theorem dX5_obtain_49 : decode cX5_obtain 49 = .ok (.isub, 1) := by decide +kernel
theorem dX5_obtain_50 : decode cX5_obtain 50 = .ok (.putfield 84, 3) := by decide +kernel
theorem dX5_obtain_53 : decode cX5_obtain 53 = .ok (.aload_n 0, 1) := by decide +kernel
theorem dX5_obtain_54 : decode cX5_obtain 54 = .ok (.dup, 1) := by decide +kernel
theorem dX5_obtain_55 : decode cX5_obtain 55 = .ok (.getfield 55, 3) := by decide +kernel
theorem dX5_obtain_58 : decode cX5_obtain 58 = .ok (.iconst 1, 1) := by decide +kernel
theorem dX5_obtain_59 : decode cX5_obtain 59 = .ok (.iadd, 1) := by decide +kernel
theorem dX5_obtain_60 : decode cX5_obtain 60 = .ok (.putfield 55, 3) := by decide +kernel
theorem dX5_obtain_63 : decode cX5_obtain 63 = .ok (.aload_n 0, 1) := by decide +kernel
theorem dX5_obtain_64 : decode cX5_obtain 64 = .ok (.iload_n 3, 1) := by decide +kernel
theorem dX5_obtain_65 : decode cX5_obtain 65 = .ok (.aload_n 0, 1) := by decide +kernel
theorem dX5_obtain_66 : decode cX5_obtain 66 = .ok (.getfield 55, 3) := by decide +kernel
theorem dX5_obtain_69 : decode cX5_obtain 69 = .ok (.iload_n 1, 1) := by decide +kernel
theorem dX5_obtain_70 : decode cX5_obtain 70 = .ok (.invokevirtual 122, 3) := by decide +kernel
theorem dX5_obtain_73 : decode cX5_obtain 73 = .ok (.aload_n 0, 1) := by decide +kernel
theorem dX5_obtain_74 : decode cX5_obtain 74 = .ok (.iload_n 3, 1) := by decide +kernel
theorem dX5_obtain_75 : decode cX5_obtain 75 = .ok (.aconst_null, 1) := by decide +kernel
theorem dX5_obtain_76 : decode cX5_obtain 76 = .ok (.invokevirtual 58, 3) := by decide +kernel
theorem dX5_obtain_79 : decode cX5_obtain 79 = .ok (.aload_n 0, 1) := by decide +kernel
theorem dX5_obtain_80 : decode cX5_obtain 80 = .ok (.iload_n 3, 1) := by decide +kernel
theorem dX5_obtain_81 : decode cX5_obtain 81 = .ok (.iconst 1, 1) := by decide +kernel
theorem dX5_obtain_82 : decode cX5_obtain 82 = .ok (.invokevirtual 125, 3) := by decide +kernel
theorem dX5_obtain_85 : decode cX5_obtain 85 = .ok (.aload_n 0, 1) := by decide +kernel
theorem dX5_obtain_86 : decode cX5_obtain 86 = .ok (.iconst 1, 1) := by decide +kernel
theorem dX5_obtain_87 : decode cX5_obtain 87 = .ok (.invokevirtual 97, 3) := by decide +kernel
theorem dX5_obtain_90 : decode cX5_obtain 90 = .ok (.iload_n 2, 1) := by decide +kernel
theorem dX5_obtain_91 : decode cX5_obtain 91 = .ok (.ifCond .eq 8, 3) := by decide +kernel
theorem dX5_obtain_94 : decode cX5_obtain 94 = .ok (.aload_n 0, 1) := by decide +kernel
theorem dX5_obtain_95 : decode cX5_obtain 95 = .ok (.iload_n 3, 1) := by decide +kernel
theorem dX5_obtain_96 : decode cX5_obtain 96 = .ok (.invokevirtual 97, 3) := by decide +kernel
theorem dX5_obtain_99 : decode cX5_obtain 99 = .ok (.aload_n 0, 1) := by decide +kernel
theorem dX5_obtain_100 : decode cX5_obtain 100 = .ok (.getfield 55, 3) := by decide +kernel
theorem dX5_obtain_103 : decode cX5_obtain 103 = .ok (.i2l, 1) := by decide +kernel
theorem dX5_obtain_104 : decode cX5_obtain 104 = .ok (.bipush 16, 2) := by decide +kernel
theorem dX5_obtain_106 : decode cX5_obtain 106 = .ok (.lshl, 1) := by decide +kernel
theorem dX5_obtain_107 : decode cX5_obtain 107 = .ok (.iload_n 3, 1) := by decide +kernel
theorem dX5_obtain_108 : decode cX5_obtain 108 = .ok (.i2l, 1) := by decide +kernel
theorem dX5_obtain_109 : decode cX5_obtain 109 = .ok (.lor, 1) := by decide +kernel
theorem dX5_obtain_110 : decode cX5_obtain 110 = .ok (.lreturn, 1) := by decide +kernel
set_option maxRecDepth 100000 in
set_option maxHeartbeats 1000000 in
theorem j_X5_obtain_99 {p : Program} {l : Launch} {e : Env} {s : State} {m : MethodId} {args : Array Value} {below : List Frame} {meth : Method} {c : Code} {D : va_G} {aC : Nat → ClassId} {b0 fu : Nat} {σ0 τ : tM} {v : Int64}  (C : tCx p l s m args meth c yX5_obtain.cls cX5_obtain 4 (some .long) D aC b0 σ0) (htab : ∀ x ∈ c.exceptionTable.toList, False) (hin : meth.name = yX5_obtain.name)  {x0 : Nat} {x3 : Int32} {σ : tM} (hm : J_X5_obtain_99 b0 fu  x0 x3 σ = some (v, τ)) : tX p l e s m args below meth c 4 2 49 D aC b0 σ0 (.inl (some (.long v))) τ 99 [(0, .ref (x0)), (3, .int (x3))] [] σ := by
  unfold J_X5_obtain_99 at hm
  refine zx_aload_n C dX5_obtain_99 0 rfl ?_
  obtain ⟨k29, i30, hm⟩ := ckO_e hm
  refine zx_get (j := 15) C tC_5 k29 i30 ⟨by decide, Or.inl W_1_118⟩ dX5_obtain_100 (.int (tI (σ) (x0) 15)) rfl ?_
  refine zx_i2l C dX5_obtain_103 ?_
  refine zx_bipush (v := 16) C dX5_obtain_104 (by decide) ?_
  refine zx_lshl C dX5_obtain_106 ?_
  refine zx_iload_n C dX5_obtain_107 1 rfl ?_
  refine zx_i2l C dX5_obtain_108 ?_
  refine zx_lor C dX5_obtain_109 ?_
  obtain ⟨rfl, rfl⟩ := ret_e hm
  exact zx_lret C rfl rfl rfl dX5_obtain_110
set_option maxRecDepth 100000 in
set_option maxHeartbeats 1000000 in
theorem j_X5_obtain_28 {p : Program} {l : Launch} {e : Env} {s : State} {m : MethodId} {args : Array Value} {below : List Frame} {meth : Method} {c : Code} {D : va_G} {aC : Nat → ClassId} {b0 fu : Nat} {σ0 τ : tM} {v : Int64}  (C : tCx p l s m args meth c yX5_obtain.cls cX5_obtain 4 (some .long) D aC b0 σ0) (htab : ∀ x ∈ c.exceptionTable.toList, False) (hin : meth.name = yX5_obtain.name)  {x0 : Nat} {x1 : Int32} {x2 : Int32} {x3 : Int32} {σ : tM} (hm : J_X5_obtain_28 b0 fu  x0 x1 x2 x3 σ = some (v, τ)) : tX p l e s m args below meth c 4 2 49 D aC b0 σ0 (.inl (some (.long v))) τ 28 [(0, .ref (x0)), (1, .int (x1)), (2, .int (x2)), (3, .int (x3))] [] σ := by
  unfold J_X5_obtain_28 at hm
  refine zx_aload_n C dX5_obtain_28 0 rfl ?_
  refine zx_iload_n C dX5_obtain_29 3 rfl ?_
  obtain ⟨k7, i8, hm⟩ := ckO_e hm
  refine zx_put (j := 14) (ρ := sI (σ) (x0) 14 (x3)) C tC_5 k7 i8 ⟨by decide, Or.inl W_1_117⟩ rfl rfl rfl (sI_ok (fun _ => rfl)) dX5_obtain_30 ?_
  refine zx_iload_n C dX5_obtain_33 3 rfl ?_
  refine zx_aload_n C dX5_obtain_34 0 rfl ?_
  refine zx_get (j := 7) C tC_5 k7 i8 ⟨by decide, Or.inl W_1_104⟩ dX5_obtain_35 (.int (tI (sI (σ) (x0) 14 (x3)) (x0) 7)) rfl ?_
  refine zx_icmp_lt C 43 dX5_obtain_38 (by decide) (fun c9 => ?_) (fun c9 => ?_)
  · replace hm := ip_e hm c9
    refine zx_aload_n C dX5_obtain_43 0 rfl ?_
    refine zx_dup C dX5_obtain_44 rfl ?_
    refine zx_get (j := 9) C tC_5 k7 i8 ⟨by decide, Or.inl W_1_107⟩ dX5_obtain_45 (.int (tI (sI (σ) (x0) 14 (x3)) (x0) 9)) rfl ?_
    refine zx_iconst (v := 1) C dX5_obtain_48 (by decide) ?_
    refine zx_isub C dX5_obtain_49 ?_
    refine zx_put (j := 9) (ρ := sI (sI (σ) (x0) 14 (x3)) (x0) 9 ((tI (sI (σ) (x0) 14 (x3)) (x0) 9) - (1))) C tC_5 k7 i8 ⟨by decide, Or.inl W_1_107⟩ rfl rfl rfl (sI_ok (fun _ => rfl)) dX5_obtain_50 ?_
    refine zx_aload_n C dX5_obtain_53 0 rfl ?_
    refine zx_dup C dX5_obtain_54 rfl ?_
    refine zx_get (j := 15) C tC_5 k7 i8 ⟨by decide, Or.inl W_1_118⟩ dX5_obtain_55 (.int (tI (sI (sI (σ) (x0) 14 (x3)) (x0) 9 ((tI (sI (σ) (x0) 14 (x3)) (x0) 9) - (1))) (x0) 15)) rfl ?_
    refine zx_iconst (v := 1) C dX5_obtain_58 (by decide) ?_
    refine zx_iadd C dX5_obtain_59 ?_
    refine zx_put (j := 15) (ρ := sI (sI (sI (σ) (x0) 14 (x3)) (x0) 9 ((tI (sI (σ) (x0) 14 (x3)) (x0) 9) - (1))) (x0) 15 ((tI (sI (sI (σ) (x0) 14 (x3)) (x0) 9 ((tI (sI (σ) (x0) 14 (x3)) (x0) 9) - (1))) (x0) 15) + (1))) C tC_5 k7 i8 ⟨by decide, Or.inl W_1_118⟩ rfl rfl rfl (sI_ok (fun _ => rfl)) dX5_obtain_60 ?_
    refine zx_aload_n C dX5_obtain_63 0 rfl ?_
    refine zx_iload_n C dX5_obtain_64 3 rfl ?_
    refine zx_aload_n C dX5_obtain_65 0 rfl ?_
    refine zx_get (j := 15) C tC_5 k7 i8 ⟨by decide, Or.inl W_1_118⟩ dX5_obtain_66 (.int (tI (sI (sI (sI (σ) (x0) 14 (x3)) (x0) 9 ((tI (sI (σ) (x0) 14 (x3)) (x0) 9) - (1))) (x0) 15 ((tI (sI (sI (σ) (x0) 14 (x3)) (x0) 9 ((tI (sI (σ) (x0) 14 (x3)) (x0) 9) - (1))) (x0) 15) + (1))) (x0) 15)) rfl ?_
    refine zx_iload_n C dX5_obtain_69 1 rfl ?_
    obtain ⟨v10, ρ11, h12, hm⟩ := cll_e hm
    refine zx_callV (σ := sI (sI (sI (σ) (x0) 14 (x3)) (x0) 9 ((tI (sI (σ) (x0) 14 (x3)) (x0) 9) - (1))) (x0) 15 ((tI (sI (sI (σ) (x0) 14 (x3)) (x0) 9 ((tI (sI (σ) (x0) 14 (x3)) (x0) 9) - (1))) (x0) 15) + (1))) C [.int (x3), .int (tI (sI (sI (sI (σ) (x0) 14 (x3)) (x0) 9 ((tI (sI (σ) (x0) 14 (x3)) (x0) 9) - (1))) (x0) 15 ((tI (sI (sI (σ) (x0) 14 (x3)) (x0) 9 ((tI (sI (σ) (x0) 14 (x3)) (x0) 9) - (1))) (x0) 15) + (1))) (x0) 15), .int (x1)] tC_5 k7 i8 Y_X5_adopt W_4_207 W_4_208 W_4_209 (c_X5_adopt h12) (by decide) (by decide) rfl (Nat.le_of_ble_eq_true rfl) dX5_obtain_70 rfl ?_
    refine zx_aload_n C dX5_obtain_73 0 rfl ?_
    refine zx_iload_n C dX5_obtain_74 3 rfl ?_
    refine zx_null C dX5_obtain_75 ?_
    obtain ⟨k13, i14, hm⟩ := ckO_e hm
    obtain ⟨v15, ρ16, h17, hm⟩ := cll_e hm
    refine zx_callV (σ := ρ11) C [.int (x3), va_rf (none)] tC_5 k13 i14 Y_X5_load W_2_129 W_2_130 W_2_131 (c_X5_load h17) (by decide) (by decide) rfl (Nat.le_of_ble_eq_true rfl) dX5_obtain_76 rfl ?_
    refine zx_aload_n C dX5_obtain_79 0 rfl ?_
    refine zx_iload_n C dX5_obtain_80 3 rfl ?_
    refine zx_iconst (v := 1) C dX5_obtain_81 (by decide) ?_
    obtain ⟨k18, i19, hm⟩ := ckO_e hm
    obtain ⟨v20, ρ21, h22, hm⟩ := cll_e hm
    refine zx_callV (σ := ρ16) C [.int (x3), .int (1)] tC_5 k18 i19 Y_X5_mark W_4_211 W_4_213 Wp_30 (c_X5_mark h22) (by decide) (by decide) rfl (Nat.le_of_ble_eq_true rfl) dX5_obtain_82 rfl ?_
    refine zx_aload_n C dX5_obtain_85 0 rfl ?_
    refine zx_iconst (v := 1) C dX5_obtain_86 (by decide) ?_
    obtain ⟨k23, i24, hm⟩ := ckO_e hm
    obtain ⟨v25, ρ26, h27, hm⟩ := cll_e hm
    refine zx_callV (σ := ρ21) C [.int (1)] tC_5 k23 i24 Y_X5_touch W_4_215 W_2_157 W_2_158 (c_X5_touch h27) (by decide) (by decide) rfl (Nat.le_of_ble_eq_true rfl) dX5_obtain_87 rfl ?_
    refine zx_iload_n C dX5_obtain_90 2 rfl ?_
    refine zx_if_eq C 99 dX5_obtain_91 (by decide) (fun c28 => ?_) (fun c28 => ?_)
    · replace hm := ip_e hm c28
      exact zx_lv [0, 3] [(0, .ref (x0)), (3, .int (x3))] rfl (j_X5_obtain_99 C htab hin    hm)
    · replace hm := in_e hm c28
      refine zx_aload_n C dX5_obtain_94 0 rfl ?_
      refine zx_iload_n C dX5_obtain_95 3 rfl ?_
      obtain ⟨k31, i32, hm⟩ := ckO_e hm
      obtain ⟨v33, ρ34, h35, hm⟩ := cll_e hm
      refine zx_callV (σ := ρ26) C [.int (x3)] tC_5 k31 i32 Y_X5_touch W_4_215 W_2_157 W_2_158 (c_X5_touch h35) (by decide) (by decide) rfl (Nat.le_of_ble_eq_true rfl) dX5_obtain_96 rfl ?_
      exact zx_lv [0, 3] [(0, .ref (x0)), (3, .int (x3))] rfl (j_X5_obtain_99 C htab hin    hm)
  · replace hm := in_e hm c9
    refine zx_lconst (v := 0) C dX5_obtain_41 (by decide) ?_
    obtain ⟨rfl, rfl⟩ := ret_e hm
    exact zx_lret C rfl rfl rfl dX5_obtain_42
set_option maxRecDepth 100000 in
set_option maxHeartbeats 1000000 in
theorem l_X5_obtain_5 {p : Program} {l : Launch} {e : Env} {s : State} {m : MethodId} {args : Array Value} {below : List Frame} {meth : Method} {c : Code} {D : va_G} {aC : Nat → ClassId} {b0 fu : Nat} {σ0 τ : tM} {v : Int64}  (C : tCx p l s m args meth c yX5_obtain.cls cX5_obtain 4 (some .long) D aC b0 σ0) (htab : ∀ x ∈ c.exceptionTable.toList, False) (hin : meth.name = yX5_obtain.name)  : ∀ (n : Nat) (x0 : Nat) (x1 : Int32) (x2 : Int32) (x3 : Int32) (σ : tM), L_X5_obtain_5 b0 fu  n x0 x1 x2 x3 σ = some (v, τ) → tX p l e s m args below meth c 4 2 49 D aC b0 σ0 (.inl (some (.long v))) τ 5 [(0, .ref (x0)), (1, .int (x1)), (2, .int (x2)), (3, .int (x3))] [] σ := by
  intro n
  induction n with
  | zero => intro x0 x1 x2 x3 σ hm; unfold L_X5_obtain_5 at hm; cases hm
  | succ n ih =>
    intro x0 x1 x2 x3 σ hm
    unfold L_X5_obtain_5 at hm
    obtain ⟨rc5, hrc⟩ : ∃ z, z = L_X5_obtain_5 b0 fu  n := ⟨_, rfl⟩
    replace hm := ltb_e hm hrc
    rw [← hrc] at ih
    have hrc5 := ih
    clear ih hrc
    refine zx_iload_n C dX5_obtain_5 3 rfl ?_
    refine zx_aload_n C dX5_obtain_6 0 rfl ?_
    obtain ⟨k4, i5, hm⟩ := ckO_e hm
    refine zx_get (j := 7) C tC_5 k4 i5 ⟨by decide, Or.inl W_1_104⟩ dX5_obtain_7 (.int (tI (σ) (x0) 7)) rfl ?_
    refine zx_icmp_ge C 28 dX5_obtain_10 (by decide) (fun c6 => ?_) (fun c6 => ?_)
    · replace hm := ip_e hm c6
      exact zx_lv [0, 1, 2, 3] [(0, .ref (x0)), (1, .int (x1)), (2, .int (x2)), (3, .int (x3))] rfl (j_X5_obtain_28 C htab hin    hm)
    · replace hm := in_e hm c6
      refine zx_aload_n C dX5_obtain_13 0 rfl ?_
      obtain ⟨a36, h37, hm⟩ := osm_e hm
      refine zx_get (j := 1) C tC_5 k4 i5 ⟨by decide, Or.inl W_1_97⟩ dX5_obtain_14 (.ref a36) (rf_s h37) ?_
      refine zx_iload_n C dX5_obtain_17 3 rfl ?_
      obtain ⟨n40, k38, i39, hm⟩ := ckR_e hm
      obtain ⟨h41, hm⟩ := ckI_e hm
      refine zx_iald C k38 i39 h41 dX5_obtain_18 ?_
      refine zx_if_eq C 28 dX5_obtain_19 (by decide) (fun c42 => ?_) (fun c42 => ?_)
      · replace hm := ip_e hm c42
        exact zx_lv [0, 1, 2, 3] [(0, .ref (x0)), (1, .int (x1)), (2, .int (x2)), (3, .int (x3))] rfl (j_X5_obtain_28 C htab hin    hm)
      · replace hm := in_e hm c42
        obtain ⟨y43, hy43⟩ : ∃ z : Int32, z = (x3) + Int32.ofInt 1 := ⟨_, rfl⟩
        replace hm := ltb_e hm hy43
        refine zx_iinc C [(3, .int (y43)), (0, .ref (x0)), (1, .int (x1)), (2, .int (x2))] dX5_obtain_22 3 rfl hy43.symm (by decide) rfl ?_
        refine zx_goto C 5 dX5_obtain_25 (by decide) ?_
        exact zx_lv [1, 2, 3, 0] [(0, .ref (x0)), (1, .int (x1)), (2, .int (x2)), (3, .int (y43))] rfl (hrc5 _ _ _ _ _ hm)
set_option maxRecDepth 100000 in
set_option maxHeartbeats 1000000 in
theorem c_X5_obtain {l : Launch} {D : va_G} {aC : Nat → ClassId} {b0 fu : Nat} {a0 : Nat} {p0 : Int32} {p1 : Int32} {σ τ : tM} {v : Int64} (hm : m_X5_obtain b0 fu a0 p0 p1 σ = some (v, τ)) : tMt l D aC b0 yX5_obtain (Cond.code yX5_obtain cX5_obtain 4 (some .long)) 2 49 [.ref (a0), .int (p0), .int (p1)] σ (.inl (some (.long v))) τ := by
  unfold m_X5_obtain at hm
  obtain ⟨hg, hm⟩ := grw_e hm
  refine tMt_of (n := 0) rfl (Nat.le_of_ble_eq_true rfl) hg ?_
  intro p e s m below meth c C htab hin
  refine zx_lv [0, 1, 2] [(0, .ref (a0)), (1, .int (p0)), (2, .int (p1))] rfl ?_
  refine zx_aload_n C dX5_obtain_0 0 rfl ?_
  obtain ⟨k1, i2, hm⟩ := ckO_e hm
  refine zx_get (j := 14) C tC_5 k1 i2 ⟨by decide, Or.inl W_1_117⟩ dX5_obtain_1 (.int (tI (σ) (a0) 14)) rfl ?_
  refine zx_topi (fun y3 hy3 => ?_)
  replace hm := ltb_e hm hy3
  refine zx_istore_n C [(3, .int (y3)), (0, .ref (a0)), (1, .int (p0)), (2, .int (p1))] dX5_obtain_4 rfl (by decide) rfl ?_
  exact zx_lv [1, 2, 3, 0] [(0, .ref (a0)), (1, .int (p0)), (2, .int (p1)), (3, .int (y3))] rfl (l_X5_obtain_5 C htab hin  _ _ _ _ _ _ hm)
abbrev cX5_release : ByteArray := prog_7_method_25_code
def yX5_release : MethodName := ⟨"SyncTree$Space", "release", "(IZ)V"⟩
theorem Y_X5_release : tY yX5_release cX5_release 3 none 2 := ⟨W_5_49, W_1_3, ⟨by decide +kernel, by decide +kernel⟩, by decide +kernel⟩
theorem dX5_release_0 : decode cX5_release 0 = .ok (.iload_n 1, 1) := by decide +kernel
theorem dX5_release_1 : decode cX5_release 1 = .ok (.bipush 34, 2) := by decide +kernel
theorem dX5_release_3 : decode cX5_release 3 = .ok (.if_icmp .lt 21, 3) := by decide +kernel
theorem dX5_release_6 : decode cX5_release 6 = .ok (.iload_n 1, 1) := by decide +kernel
theorem dX5_release_7 : decode cX5_release 7 = .ok (.aload_n 0, 1) := by decide +kernel
theorem dX5_release_8 : decode cX5_release 8 = .ok (.getfield 48, 3) := by decide +kernel
theorem dX5_release_11 : decode cX5_release 11 = .ok (.if_icmp .ge 13, 3) := by decide +kernel
theorem dX5_release_14 : decode cX5_release 14 = .ok (.aload_n 0, 1) := by decide +kernel
theorem dX5_release_15 : decode cX5_release 15 = .ok (.getfield 16, 3) := by decide +kernel
theorem dX5_release_18 : decode cX5_release 18 = .ok (.iload_n 1, 1) := by decide +kernel
theorem dX5_release_19 : decode cX5_release 19 = .ok (.iaload, 1) := by decide +kernel
theorem dX5_release_20 : decode cX5_release 20 = .ok (.iconst (-1), 1) := by decide +kernel
theorem dX5_release_21 : decode cX5_release 21 = .ok (.if_icmp .eq 4, 3) := by decide +kernel
theorem dX5_release_24 : decode cX5_release 24 = .ok (.return_, 1) := by decide +kernel
theorem dX5_release_25 : decode cX5_release 25 = .ok (.aload_n 0, 1) := by decide +kernel
theorem dX5_release_26 : decode cX5_release 26 = .ok (.getfield 16, 3) := by decide +kernel
theorem dX5_release_29 : decode cX5_release 29 = .ok (.iload_n 1, 1) := by decide +kernel
theorem dX5_release_30 : decode cX5_release 30 = .ok (.aload_n 0, 1) := by decide +kernel
theorem dX5_release_31 : decode cX5_release 31 = .ok (.getfield 72, 3) := by decide +kernel
theorem dX5_release_34 : decode cX5_release 34 = .ok (.iastore, 1) := by decide +kernel
theorem dX5_release_35 : decode cX5_release 35 = .ok (.aload_n 0, 1) := by decide +kernel
theorem dX5_release_36 : decode cX5_release 36 = .ok (.dup, 1) := by decide +kernel
theorem dX5_release_37 : decode cX5_release 37 = .ok (.getfield 87, 3) := by decide +kernel
theorem dX5_release_40 : decode cX5_release 40 = .ok (.iconst 1, 1) := by decide +kernel
theorem dX5_release_41 : decode cX5_release 41 = .ok (.iadd, 1) := by decide +kernel
theorem dX5_release_42 : decode cX5_release 42 = .ok (.putfield 87, 3) := by decide +kernel
theorem dX5_release_45 : decode cX5_release 45 = .ok (.aload_n 0, 1) := by decide +kernel
theorem dX5_release_46 : decode cX5_release 46 = .ok (.iload_n 1, 1) := by decide +kernel
theorem dX5_release_47 : decode cX5_release 47 = .ok (.iconst 0, 1) := by decide +kernel
theorem dX5_release_48 : decode cX5_release 48 = .ok (.invokevirtual 125, 3) := by decide +kernel
theorem dX5_release_51 : decode cX5_release 51 = .ok (.aload_n 0, 1) := by decide +kernel
theorem dX5_release_52 : decode cX5_release 52 = .ok (.iconst 1, 1) := by decide +kernel
theorem dX5_release_53 : decode cX5_release 53 = .ok (.invokevirtual 97, 3) := by decide +kernel
theorem dX5_release_56 : decode cX5_release 56 = .ok (.aload_n 0, 1) := by decide +kernel
theorem dX5_release_57 : decode cX5_release 57 = .ok (.iload_n 1, 1) := by decide +kernel
theorem dX5_release_58 : decode cX5_release 58 = .ok (.invokevirtual 68, 3) := by decide +kernel
theorem dX5_release_61 : decode cX5_release 61 = .ok (.iload_n 2, 1) := by decide +kernel
theorem dX5_release_62 : decode cX5_release 62 = .ok (.ifCond .eq 8, 3) := by decide +kernel
theorem dX5_release_65 : decode cX5_release 65 = .ok (.aload_n 0, 1) := by decide +kernel
theorem dX5_release_66 : decode cX5_release 66 = .ok (.iload_n 1, 1) := by decide +kernel
theorem dX5_release_67 : decode cX5_release 67 = .ok (.invokevirtual 129, 3) := by decide +kernel
theorem dX5_release_70 : decode cX5_release 70 = .ok (.return_, 1) := by decide +kernel
set_option maxRecDepth 100000 in
set_option maxHeartbeats 1000000 in
theorem j_X5_release_24 {p : Program} {l : Launch} {e : Env} {s : State} {m : MethodId} {args : Array Value} {below : List Frame} {meth : Method} {c : Code} {D : va_G} {aC : Nat → ClassId} {b0 fu : Nat} {σ0 τ : tM} {v : Unit}  (C : tCx p l s m args meth c yX5_release.cls cX5_release 3 none D aC b0 σ0) (htab : ∀ x ∈ c.exceptionTable.toList, False) (hin : meth.name = yX5_release.name)   {σ : tM} (hm : J_X5_release_24 b0 fu   σ = some (v, τ)) : tX p l e s m args below meth c 3 1 26 D aC b0 σ0 (.inl none) τ 24 [] [] σ := by
  unfold J_X5_release_24 at hm
  obtain ⟨rfl, rfl⟩ := ret_e hm
  exact zx_vret C rfl rfl rfl dX5_release_24
set_option maxRecDepth 100000 in
set_option maxHeartbeats 1000000 in
theorem j_X5_release_70 {p : Program} {l : Launch} {e : Env} {s : State} {m : MethodId} {args : Array Value} {below : List Frame} {meth : Method} {c : Code} {D : va_G} {aC : Nat → ClassId} {b0 fu : Nat} {σ0 τ : tM} {v : Unit}  (C : tCx p l s m args meth c yX5_release.cls cX5_release 3 none D aC b0 σ0) (htab : ∀ x ∈ c.exceptionTable.toList, False) (hin : meth.name = yX5_release.name)   {σ : tM} (hm : J_X5_release_70 b0 fu   σ = some (v, τ)) : tX p l e s m args below meth c 3 1 26 D aC b0 σ0 (.inl none) τ 70 [] [] σ := by
  unfold J_X5_release_70 at hm
  obtain ⟨rfl, rfl⟩ := ret_e hm
  exact zx_vret C rfl rfl rfl dX5_release_70
set_option maxRecDepth 100000 in
set_option maxHeartbeats 1000000 in
theorem c_X5_release {l : Launch} {D : va_G} {aC : Nat → ClassId} {b0 fu : Nat} {a0 : Nat} {p0 : Int32} {p1 : Int32} {σ τ : tM} {v : Unit} (hm : m_X5_release b0 fu a0 p0 p1 σ = some (v, τ)) : tMt l D aC b0 yX5_release (Cond.code yX5_release cX5_release 3 none) 1 26 [.ref (a0), .int (p0), .int (p1)] σ (.inl none) τ := by
  unfold m_X5_release at hm
  obtain ⟨hg, hm⟩ := grw_e hm
  refine tMt_of (n := 0) rfl (Nat.le_of_ble_eq_true rfl) hg ?_
  intro p e s m below meth c C htab hin
  refine zx_lv [0, 1, 2] [(0, .ref (a0)), (1, .int (p0)), (2, .int (p1))] rfl ?_
  refine zx_iload_n C dX5_release_0 1 rfl ?_
  refine zx_bipush (v := 34) C dX5_release_1 (by decide) ?_
  refine zx_icmp_lt C 24 dX5_release_3 (by decide) (fun c1 => ?_) (fun c1 => ?_)
  · replace hm := ip_e hm c1
    exact zx_lv [] [] rfl (j_X5_release_24 C htab hin    hm)
  · replace hm := in_e hm c1
    refine zx_iload_n C dX5_release_6 1 rfl ?_
    refine zx_aload_n C dX5_release_7 0 rfl ?_
    obtain ⟨k2, i3, hm⟩ := ckO_e hm
    refine zx_get (j := 7) C tC_5 k2 i3 ⟨by decide, Or.inl W_1_104⟩ dX5_release_8 (.int (tI (σ) (a0) 7)) rfl ?_
    refine zx_icmp_ge C 24 dX5_release_11 (by decide) (fun c4 => ?_) (fun c4 => ?_)
    · replace hm := ip_e hm c4
      exact zx_lv [] [] rfl (j_X5_release_24 C htab hin    hm)
    · replace hm := in_e hm c4
      refine zx_aload_n C dX5_release_14 0 rfl ?_
      obtain ⟨a5, h6, hm⟩ := osm_e hm
      refine zx_get (j := 1) C tC_5 k2 i3 ⟨by decide, Or.inl W_1_97⟩ dX5_release_15 (.ref a5) (rf_s h6) ?_
      refine zx_iload_n C dX5_release_18 1 rfl ?_
      obtain ⟨n9, k7, i8, hm⟩ := ckR_e hm
      obtain ⟨h10, hm⟩ := ckI_e hm
      refine zx_iald C k7 i8 h10 dX5_release_19 ?_
      refine zx_iconst (v := (-1)) C dX5_release_20 (by decide) ?_
      refine zx_icmp_eq C 25 dX5_release_21 (by decide) (fun c11 => ?_) (fun c11 => ?_)
      · replace hm := ip_e hm c11
        refine zx_aload_n C dX5_release_25 0 rfl ?_
        obtain ⟨a12, h13, hm⟩ := osm_e hm
        refine zx_get (j := 1) C tC_5 k2 i3 ⟨by decide, Or.inl W_1_97⟩ dX5_release_26 (.ref a12) (rf_s h13) ?_
        refine zx_iload_n C dX5_release_29 1 rfl ?_
        refine zx_aload_n C dX5_release_30 0 rfl ?_
        refine zx_get (j := 16) C tC_5 k2 i3 ⟨by decide, Or.inl W_1_119⟩ dX5_release_31 (.int (tI (σ) (a0) 16)) rfl ?_
        obtain ⟨n16, k14, i15, hm⟩ := ckR_e hm
        obtain ⟨h17, hm⟩ := ckI_e hm
        refine zx_iast C k14 i15 h17 dX5_release_34 ?_
        refine zx_aload_n C dX5_release_35 0 rfl ?_
        refine zx_dup C dX5_release_36 rfl ?_
        refine zx_get (j := 10) C tC_5 k2 i3 ⟨by decide, Or.inl W_1_110⟩ dX5_release_37 (.int (tI (sI (σ) (a12) ((p0).toNatClampNeg) (tI (σ) (a0) 16)) (a0) 10)) rfl ?_
        refine zx_iconst (v := 1) C dX5_release_40 (by decide) ?_
        refine zx_iadd C dX5_release_41 ?_
        refine zx_put (j := 10) (ρ := sI (sI (σ) (a12) ((p0).toNatClampNeg) (tI (σ) (a0) 16)) (a0) 10 ((tI (sI (σ) (a12) ((p0).toNatClampNeg) (tI (σ) (a0) 16)) (a0) 10) + (1))) C tC_5 k2 i3 ⟨by decide, Or.inl W_1_110⟩ rfl rfl rfl (sI_ok (fun _ => rfl)) dX5_release_42 ?_
        refine zx_aload_n C dX5_release_45 0 rfl ?_
        refine zx_iload_n C dX5_release_46 1 rfl ?_
        refine zx_iconst (v := 0) C dX5_release_47 (by decide) ?_
        obtain ⟨v18, ρ19, h20, hm⟩ := cll_e hm
        refine zx_callV (σ := sI (sI (σ) (a12) ((p0).toNatClampNeg) (tI (σ) (a0) 16)) (a0) 10 ((tI (sI (σ) (a12) ((p0).toNatClampNeg) (tI (σ) (a0) 16)) (a0) 10) + (1))) C [.int (p0), .int (0)] tC_5 k2 i3 Y_X5_mark W_4_211 W_4_213 Wp_30 (c_X5_mark h20) (by decide) (by decide) rfl (Nat.le_of_ble_eq_true rfl) dX5_release_48 rfl ?_
        refine zx_aload_n C dX5_release_51 0 rfl ?_
        refine zx_iconst (v := 1) C dX5_release_52 (by decide) ?_
        obtain ⟨k21, i22, hm⟩ := ckO_e hm
        obtain ⟨v23, ρ24, h25, hm⟩ := cll_e hm
        refine zx_callV (σ := ρ19) C [.int (1)] tC_5 k21 i22 Y_X5_touch W_4_215 W_2_157 W_2_158 (c_X5_touch h25) (by decide) (by decide) rfl (Nat.le_of_ble_eq_true rfl) dX5_release_53 rfl ?_
        refine zx_aload_n C dX5_release_56 0 rfl ?_
        refine zx_iload_n C dX5_release_57 1 rfl ?_
        obtain ⟨k26, i27, hm⟩ := ckO_e hm
        obtain ⟨v28, ρ29, h30, hm⟩ := cll_e hm
        refine zx_callV (σ := ρ24) C [.int (p0)] tC_5 k26 i27 Y_X5_clean W_2_119 W_2_120 W_2_121 (c_X5_clean h30) (by decide) (by decide) rfl (Nat.le_of_ble_eq_true rfl) dX5_release_58 rfl ?_
        refine zx_iload_n C dX5_release_61 2 rfl ?_
        refine zx_if_eq C 70 dX5_release_62 (by decide) (fun c31 => ?_) (fun c31 => ?_)
        · replace hm := ip_e hm c31
          exact zx_lv [] [] rfl (j_X5_release_70 C htab hin    hm)
        · replace hm := in_e hm c31
          refine zx_aload_n C dX5_release_65 0 rfl ?_
          refine zx_iload_n C dX5_release_66 1 rfl ?_
          obtain ⟨k32, i33, hm⟩ := ckO_e hm
          obtain ⟨v34, ρ35, h36, hm⟩ := cll_e hm
          refine zx_callV (σ := ρ29) C [.int (p0)] tC_5 k32 i33 Y_X5_revoke W_5_50 W_5_52 Wp_34 (c_X5_revoke h36) (by decide) (by decide) rfl (Nat.le_of_ble_eq_true rfl) dX5_release_67 rfl ?_
          exact zx_lv [] [] rfl (j_X5_release_70 C htab hin    hm)
      · replace hm := in_e hm c11
        exact zx_lv [] [] rfl (j_X5_release_24 C htab hin    hm)
abbrev cX8_setUp : ByteArray := prog_10_method_14_code
def yX8_setUp : MethodName := ⟨"SyncTree$Tree", "setUp", "(III)V"⟩
theorem Y_X8_setUp : tY yX8_setUp cX8_setUp 5 none 3 := ⟨W_2_147, W_1_4, ⟨by decide +kernel, by decide +kernel⟩, by decide +kernel⟩
theorem dX8_setUp_0 : decode cX8_setUp 0 = .ok (.iload_n 2, 1) := by decide +kernel
theorem dX8_setUp_1 : decode cX8_setUp 1 = .ok (.iconst 2, 1) := by decide +kernel
theorem dX8_setUp_2 : decode cX8_setUp 2 = .ok (.if_icmp .ne 7, 3) := by decide +kernel
theorem dX8_setUp_5 : decode cX8_setUp 5 = .ok (.iconst 1, 1) := by decide +kernel
theorem dX8_setUp_6 : decode cX8_setUp 6 = .ok (.goto 4, 3) := by decide +kernel
theorem dX8_setUp_9 : decode cX8_setUp 9 = .ok (.iconst 0, 1) := by decide +kernel
theorem dX8_setUp_10 : decode cX8_setUp 10 = .ok (.istore 4, 2) := by decide +kernel
theorem dX8_setUp_12 : decode cX8_setUp 12 = .ok (.aload_n 0, 1) := by decide +kernel
theorem dX8_setUp_13 : decode cX8_setUp 13 = .ok (.iload_n 1, 1) := by decide +kernel
theorem dX8_setUp_14 : decode cX8_setUp 14 = .ok (.iload_n 2, 1) := by decide +kernel
theorem dX8_setUp_15 : decode cX8_setUp 15 = .ok (.iload 4, 2) := by decide +kernel
theorem dX8_setUp_17 : decode cX8_setUp 17 = .ok (.ifCond .eq 7, 3) := by decide +kernel
theorem dX8_setUp_20 : decode cX8_setUp 20 = .ok (.iconst 0, 1) := by decide +kernel
theorem dX8_setUp_21 : decode cX8_setUp 21 = .ok (.goto 4, 3) := by decide +kernel
theorem dX8_setUp_24 : decode cX8_setUp 24 = .ok (.iconst 1, 1) := by decide +kernel
theorem dX8_setUp_25 : decode cX8_setUp 25 = .ok (.iload 4, 2) := by decide +kernel
theorem dX8_setUp_27 : decode cX8_setUp 27 = .ok (.ifCond .eq 7, 3) := by decide +kernel
theorem dX8_setUp_30 : decode cX8_setUp 30 = .ok (.iload_n 3, 1) := by decide +kernel
theorem dX8_setUp_31 : decode cX8_setUp 31 = .ok (.goto 4, 3) := by decide +kernel
theorem dX8_setUp_34 : decode cX8_setUp 34 = .ok (.iconst 0, 1) := by decide +kernel
theorem dX8_setUp_35 : decode cX8_setUp 35 = .ok (.iconst 0, 1) := by decide +kernel
theorem dX8_setUp_36 : decode cX8_setUp 36 = .ok (.invokevirtual 56, 3) := by decide +kernel
theorem dX8_setUp_39 : decode cX8_setUp 39 = .ok (.aload_n 0, 1) := by decide +kernel
theorem dX8_setUp_40 : decode cX8_setUp 40 = .ok (.iload_n 1, 1) := by decide +kernel
theorem dX8_setUp_41 : decode cX8_setUp 41 = .ok (.iconst 0, 1) := by decide +kernel
theorem dX8_setUp_42 : decode cX8_setUp 42 = .ok (.invokevirtual 63, 3) := by decide +kernel
theorem dX8_setUp_45 : decode cX8_setUp 45 = .ok (.return_, 1) := by decide +kernel
set_option maxRecDepth 100000 in
set_option maxHeartbeats 1000000 in
theorem j_X8_setUp_35 {p : Program} {l : Launch} {e : Env} {s : State} {m : MethodId} {args : Array Value} {below : List Frame} {meth : Method} {c : Code} {D : va_G} {aC : Nat → ClassId} {b0 fu : Nat} {σ0 τ : tM} {v : Unit}  (C : tCx p l s m args meth c yX8_setUp.cls cX8_setUp 5 none D aC b0 σ0) (htab : ∀ x ∈ c.exceptionTable.toList, False) (hin : meth.name = yX8_setUp.name)  {x0 : Nat} {x1 : Int32} {s0 : Nat} {s1 : Int32} {s2 : Int32} {s3 : Int32} {s4 : Int32} {σ : tM} (hm : J_X8_setUp_35 b0 fu  x0 x1 s0 s1 s2 s3 s4 σ = some (v, τ)) : tX p l e s m args below meth c 5 3 70 D aC b0 σ0 (.inl none) τ 35 [(0, .ref (x0)), (1, .int (x1))] [.int (s4), .int (s3), .int (s2), .int (s1), .ref (s0)] σ := by
  unfold J_X8_setUp_35 at hm
  refine zx_iconst (v := 0) C dX8_setUp_35 (by decide) ?_
  obtain ⟨k4, i5, hm⟩ := ckO_e hm
  obtain ⟨v6, ρ7, h8, hm⟩ := cll_e hm
  refine zx_callV (σ := σ) C [.int (s1), .int (s2), .int (s3), .int (s4), .int (0)] tC_8 k4 i5 Y_X8_setHeader W_2_148 W_2_150 Wp_5 (c_X8_setHeader h8) (by decide) (by decide) rfl (Nat.le_of_ble_eq_true rfl) dX8_setUp_36 rfl ?_
  refine zx_aload_n C dX8_setUp_39 0 rfl ?_
  refine zx_iload_n C dX8_setUp_40 1 rfl ?_
  refine zx_iconst (v := 0) C dX8_setUp_41 (by decide) ?_
  obtain ⟨k9, i10, hm⟩ := ckO_e hm
  obtain ⟨v11, ρ12, h13, hm⟩ := cll_e hm
  refine zx_callV (σ := ρ7) C [.int (x1), .int (0)] tC_8 k9 i10 Y_X8_noteChange W_2_160 W_2_162 Wp_7 (c_X8_noteChange h13) (by decide) (by decide) rfl (Nat.le_of_ble_eq_true rfl) dX8_setUp_42 rfl ?_
  obtain ⟨rfl, rfl⟩ := ret_e hm
  exact zx_vret C rfl rfl rfl dX8_setUp_45
set_option maxRecDepth 100000 in
set_option maxHeartbeats 1000000 in
theorem j_X8_setUp_25 {p : Program} {l : Launch} {e : Env} {s : State} {m : MethodId} {args : Array Value} {below : List Frame} {meth : Method} {c : Code} {D : va_G} {aC : Nat → ClassId} {b0 fu : Nat} {σ0 τ : tM} {v : Unit}  (C : tCx p l s m args meth c yX8_setUp.cls cX8_setUp 5 none D aC b0 σ0) (htab : ∀ x ∈ c.exceptionTable.toList, False) (hin : meth.name = yX8_setUp.name)  {x0 : Nat} {x1 : Int32} {x3 : Int32} {x4 : Int32} {s0 : Nat} {s1 : Int32} {s2 : Int32} {s3 : Int32} {σ : tM} (hm : J_X8_setUp_25 b0 fu  x0 x1 x3 x4 s0 s1 s2 s3 σ = some (v, τ)) : tX p l e s m args below meth c 5 3 70 D aC b0 σ0 (.inl none) τ 25 [(0, .ref (x0)), (1, .int (x1)), (3, .int (x3)), (4, .int (x4))] [.int (s3), .int (s2), .int (s1), .ref (s0)] σ := by
  unfold J_X8_setUp_25 at hm
  refine zx_iload C dX8_setUp_25 3 rfl ?_
  refine zx_if_eq C 34 dX8_setUp_27 (by decide) (fun c3 => ?_) (fun c3 => ?_)
  · replace hm := ip_e hm c3
    refine zx_iconst (v := 0) C dX8_setUp_34 (by decide) ?_
    exact zx_lv [0, 1] [(0, .ref (x0)), (1, .int (x1))] rfl (j_X8_setUp_35 C htab hin    hm)
  · replace hm := in_e hm c3
    refine zx_iload_n C dX8_setUp_30 2 rfl ?_
    refine zx_goto C 35 dX8_setUp_31 (by decide) ?_
    exact zx_lv [0, 1] [(0, .ref (x0)), (1, .int (x1))] rfl (j_X8_setUp_35 C htab hin    hm)
set_option maxRecDepth 100000 in
set_option maxHeartbeats 1000000 in
theorem j_X8_setUp_10 {p : Program} {l : Launch} {e : Env} {s : State} {m : MethodId} {args : Array Value} {below : List Frame} {meth : Method} {c : Code} {D : va_G} {aC : Nat → ClassId} {b0 fu : Nat} {σ0 τ : tM} {v : Unit}  (C : tCx p l s m args meth c yX8_setUp.cls cX8_setUp 5 none D aC b0 σ0) (htab : ∀ x ∈ c.exceptionTable.toList, False) (hin : meth.name = yX8_setUp.name)  {x0 : Nat} {x1 : Int32} {x2 : Int32} {x3 : Int32} {s0 : Int32} {σ : tM} (hm : J_X8_setUp_10 b0 fu  x0 x1 x2 x3 s0 σ = some (v, τ)) : tX p l e s m args below meth c 5 3 70 D aC b0 σ0 (.inl none) τ 10 [(0, .ref (x0)), (1, .int (x1)), (2, .int (x2)), (3, .int (x3))] [.int (s0)] σ := by
  unfold J_X8_setUp_10 at hm
  refine zx_istore C [(4, .int (s0)), (0, .ref (x0)), (1, .int (x1)), (2, .int (x2)), (3, .int (x3))] dX8_setUp_10 (by decide) rfl ?_
  refine zx_aload_n C dX8_setUp_12 1 rfl ?_
  refine zx_iload_n C dX8_setUp_13 2 rfl ?_
  refine zx_iload_n C dX8_setUp_14 3 rfl ?_
  refine zx_iload C dX8_setUp_15 0 rfl ?_
  refine zx_if_eq C 24 dX8_setUp_17 (by decide) (fun c2 => ?_) (fun c2 => ?_)
  · replace hm := ip_e hm c2
    refine zx_iconst (v := 1) C dX8_setUp_24 (by decide) ?_
    exact zx_lv [1, 2, 4, 0] [(0, .ref (x0)), (1, .int (x1)), (3, .int (x3)), (4, .int (s0))] rfl (j_X8_setUp_25 C htab hin    hm)
  · replace hm := in_e hm c2
    refine zx_iconst (v := 0) C dX8_setUp_20 (by decide) ?_
    refine zx_goto C 25 dX8_setUp_21 (by decide) ?_
    exact zx_lv [1, 2, 4, 0] [(0, .ref (x0)), (1, .int (x1)), (3, .int (x3)), (4, .int (s0))] rfl (j_X8_setUp_25 C htab hin    hm)
set_option maxRecDepth 100000 in
set_option maxHeartbeats 1000000 in
theorem c_X8_setUp {l : Launch} {D : va_G} {aC : Nat → ClassId} {b0 fu : Nat} {a0 : Nat} {p0 : Int32} {p1 : Int32} {p2 : Int32} {σ τ : tM} {v : Unit} (hm : m_X8_setUp b0 fu a0 p0 p1 p2 σ = some (v, τ)) : tMt l D aC b0 yX8_setUp (Cond.code yX8_setUp cX8_setUp 5 none) 3 70 [.ref (a0), .int (p0), .int (p1), .int (p2)] σ (.inl none) τ := by
  unfold m_X8_setUp at hm
  obtain ⟨hg, hm⟩ := grw_e hm
  refine tMt_of (n := 0) rfl (Nat.le_of_ble_eq_true rfl) hg ?_
  intro p e s m below meth c C htab hin
  refine zx_lv [0, 1, 2, 3] [(0, .ref (a0)), (1, .int (p0)), (2, .int (p1)), (3, .int (p2))] rfl ?_
  refine zx_iload_n C dX8_setUp_0 2 rfl ?_
  refine zx_iconst (v := 2) C dX8_setUp_1 (by decide) ?_
  refine zx_icmp_ne C 9 dX8_setUp_2 (by decide) (fun c1 => ?_) (fun c1 => ?_)
  · replace hm := in_e hm c1
    refine zx_iconst (v := 0) C dX8_setUp_9 (by decide) ?_
    exact zx_lv [0, 1, 2, 3] [(0, .ref (a0)), (1, .int (p0)), (2, .int (p1)), (3, .int (p2))] rfl (j_X8_setUp_10 C htab hin    hm)
  · replace hm := ip_e hm c1
    refine zx_iconst (v := 1) C dX8_setUp_5 (by decide) ?_
    refine zx_goto C 10 dX8_setUp_6 (by decide) ?_
    exact zx_lv [0, 1, 2, 3] [(0, .ref (a0)), (1, .int (p0)), (2, .int (p1)), (3, .int (p2))] rfl (j_X8_setUp_10 C htab hin    hm)
abbrev cX8_forgetChanges : ByteArray := prog_10_method_21_code
def yX8_forgetChanges : MethodName := ⟨"SyncTree$Tree", "forgetChanges", "()V"⟩
theorem Y_X8_forgetChanges : tY yX8_forgetChanges cX8_forgetChanges 1 none 0 := ⟨W_2_176, W_1_4, ⟨by decide +kernel, by decide +kernel⟩, by decide +kernel⟩
theorem dX8_forgetChanges_0 : decode cX8_forgetChanges 0 = .ok (.aload_n 0, 1) := by decide +kernel
theorem dX8_forgetChanges_1 : decode cX8_forgetChanges 1 = .ok (.getfield 11, 3) := by decide +kernel
theorem dX8_forgetChanges_4 : decode cX8_forgetChanges 4 = .ok (.iconst 0, 1) := by decide +kernel
theorem dX8_forgetChanges_5 : decode cX8_forgetChanges 5 = .ok (.invokestatic 89, 3) := by decide +kernel
theorem dX8_forgetChanges_8 : decode cX8_forgetChanges 8 = .ok (.return_, 1) := by decide +kernel
set_option maxRecDepth 100000 in
set_option maxHeartbeats 1000000 in
theorem c_X8_forgetChanges {l : Launch} {D : va_G} {aC : Nat → ClassId} {b0 fu : Nat} {a0 : Nat} {σ τ : tM} {v : Unit} (hm : m_X8_forgetChanges b0 fu a0 σ = some (v, τ)) : tMt l D aC b0 yX8_forgetChanges (Cond.code yX8_forgetChanges cX8_forgetChanges 1 none) 1 23 [.ref (a0)] σ (.inl none) τ := by
  unfold m_X8_forgetChanges at hm
  obtain ⟨hg, hm⟩ := grw_e hm
  refine tMt_of (n := 0) rfl (Nat.le_of_ble_eq_true rfl) hg ?_
  intro p e s m below meth c C htab hin
  refine zx_lv [0] [(0, .ref (a0))] rfl ?_
  refine zx_aload_n C dX8_forgetChanges_0 0 rfl ?_
  obtain ⟨k1, i2, hm⟩ := ckO_e hm
  obtain ⟨a3, h4, hm⟩ := osm_e hm
  refine zx_get (j := 2) C tC_8 k1 i2 ⟨by decide, Or.inl W_1_165⟩ dX8_forgetChanges_1 (.ref a3) (rf_s h4) ?_
  refine zx_iconst (v := 0) C dX8_forgetChanges_4 (by decide) ?_
  obtain ⟨v5, ρ6, h7, hm⟩ := cll_e hm
  refine zx_callS (σ := σ) C [.ref (a3), .int (0)] Y_J7_fill_031fb W_2_177 W_2_178 (c_J7_fill_031fb h7) (by decide) (by decide) rfl (Nat.le_of_ble_eq_true rfl) dX8_forgetChanges_5 rfl ?_
  obtain ⟨rfl, rfl⟩ := ret_e hm
  exact zx_vret C rfl rfl rfl dX8_forgetChanges_8
abbrev cX8_setPointer : ByteArray := prog_10_method_27_code
def yX8_setPointer : MethodName := ⟨"SyncTree$Tree", "setPointer", "(IIJ)V"⟩
theorem Y_X8_setPointer : tY yX8_setPointer cX8_setPointer 5 none 3 := ⟨W_4_223, W_1_4, ⟨by decide +kernel, by decide +kernel⟩, by decide +kernel⟩
theorem dX8_setPointer_0 : decode cX8_setPointer 0 = .ok (.iload_n 2, 1) := by decide +kernel
theorem dX8_setPointer_1 : decode cX8_setPointer 1 = .ok (.bipush 8, 2) := by decide +kernel
theorem dX8_setPointer_3 : decode cX8_setPointer 3 = .ok (.if_icmp .ge 15, 3) := by decide +kernel
theorem dX8_setPointer_6 : decode cX8_setPointer 6 = .ok (.aload_n 0, 1) := by decide +kernel
theorem dX8_setPointer_7 : decode cX8_setPointer 7 = .ok (.iload_n 1, 1) := by decide +kernel
theorem dX8_setPointer_8 : decode cX8_setPointer 8 = .ok (.iconst 1, 1) := by decide +kernel
theorem dX8_setPointer_9 : decode cX8_setPointer 9 = .ok (.iload_n 2, 1) := by decide +kernel
theorem dX8_setPointer_10 : decode cX8_setPointer 10 = .ok (.iadd, 1) := by decide +kernel
theorem dX8_setPointer_11 : decode cX8_setPointer 11 = .ok (.lload_n 3, 1) := by decide +kernel
theorem dX8_setPointer_12 : decode cX8_setPointer 12 = .ok (.invokevirtual 36, 3) := by decide +kernel
theorem dX8_setPointer_15 : decode cX8_setPointer 15 = .ok (.goto 27, 3) := by decide +kernel
theorem dX8_setPointer_18 : decode cX8_setPointer 18 = .ok (.aload_n 0, 1) := by decide +kernel
theorem dX8_setPointer_19 : decode cX8_setPointer 19 = .ok (.getfield 15, 3) := by decide +kernel
theorem dX8_setPointer_22 : decode cX8_setPointer 22 = .ok (.aload_n 0, 1) := by decide +kernel
theorem dX8_setPointer_23 : decode cX8_setPointer 23 = .ok (.iload_n 1, 1) := by decide +kernel
theorem dX8_setPointer_24 : decode cX8_setPointer 24 = .ok (.iload_n 2, 1) := by decide +kernel
theorem dX8_setPointer_25 : decode cX8_setPointer 25 = .ok (.invokevirtual 101, 3) := by decide +kernel
theorem dX8_setPointer_28 : decode cX8_setPointer 28 = .ok (.invokestatic 104, 3) := by decide +kernel
theorem dX8_setPointer_31 : decode cX8_setPointer 31 = .ok (.iload_n 2, 1) := by decide +kernel
theorem dX8_setPointer_32 : decode cX8_setPointer 32 = .ok (.bipush 8, 2) := by decide +kernel
theorem dX8_setPointer_34 : decode cX8_setPointer 34 = .ok (.isub, 1) := by decide +kernel
theorem dX8_setPointer_35 : decode cX8_setPointer 35 = .ok (.bipush 32, 2) := by decide +kernel
theorem dX8_setPointer_37 : decode cX8_setPointer 37 = .ok (.irem, 1) := by decide +kernel
theorem dX8_setPointer_38 : decode cX8_setPointer 38 = .ok (.lload_n 3, 1) := by decide +kernel
theorem dX8_setPointer_39 : decode cX8_setPointer 39 = .ok (.invokevirtual 108, 3) := by decide +kernel
theorem dX8_setPointer_42 : decode cX8_setPointer 42 = .ok (.return_, 1) := by decide +kernel
set_option maxRecDepth 100000 in
set_option maxHeartbeats 1000000 in
theorem j_X8_setPointer_42 {p : Program} {l : Launch} {e : Env} {s : State} {m : MethodId} {args : Array Value} {below : List Frame} {meth : Method} {c : Code} {D : va_G} {aC : Nat → ClassId} {b0 fu : Nat} {σ0 τ : tM} {v : Unit}  (C : tCx p l s m args meth c yX8_setPointer.cls cX8_setPointer 5 none D aC b0 σ0) (htab : ∀ x ∈ c.exceptionTable.toList, False) (hin : meth.name = yX8_setPointer.name)   {σ : tM} (hm : J_X8_setPointer_42 b0 fu   σ = some (v, τ)) : tX p l e s m args below meth c 5 2 45 D aC b0 σ0 (.inl none) τ 42 [] [] σ := by
  unfold J_X8_setPointer_42 at hm
  obtain ⟨rfl, rfl⟩ := ret_e hm
  exact zx_vret C rfl rfl rfl dX8_setPointer_42
set_option maxRecDepth 100000 in
set_option maxHeartbeats 1000000 in
theorem c_X8_setPointer {l : Launch} {D : va_G} {aC : Nat → ClassId} {b0 fu : Nat} {a0 : Nat} {p0 : Int32} {p1 : Int32} {p2 : Int64} {σ τ : tM} {v : Unit} (hm : m_X8_setPointer b0 fu a0 p0 p1 p2 σ = some (v, τ)) : tMt l D aC b0 yX8_setPointer (Cond.code yX8_setPointer cX8_setPointer 5 none) 2 45 [.ref (a0), .int (p0), .int (p1), .long (p2)] σ (.inl none) τ := by
  unfold m_X8_setPointer at hm
  obtain ⟨hg, hm⟩ := grw_e hm
  refine tMt_of (n := 0) rfl (Nat.le_of_ble_eq_true rfl) hg ?_
  intro p e s m below meth c C htab hin
  refine zx_lv [0, 1, 2, 3] [(0, .ref (a0)), (1, .int (p0)), (2, .int (p1)), (3, .long (p2))] rfl ?_
  refine zx_iload_n C dX8_setPointer_0 2 rfl ?_
  refine zx_bipush (v := 8) C dX8_setPointer_1 (by decide) ?_
  refine zx_icmp_ge C 18 dX8_setPointer_3 (by decide) (fun c1 => ?_) (fun c1 => ?_)
  · replace hm := ip_e hm c1
    refine zx_aload_n C dX8_setPointer_18 0 rfl ?_
    obtain ⟨k2, i3, hm⟩ := ckO_e hm
    obtain ⟨a4, h5, hm⟩ := osm_e hm
    refine zx_get (j := 0) C tC_8 k2 i3 ⟨by decide, Or.inl W_1_163⟩ dX8_setPointer_19 (.ref a4) (rf_s h5) ?_
    refine zx_aload_n C dX8_setPointer_22 0 rfl ?_
    refine zx_iload_n C dX8_setPointer_23 1 rfl ?_
    refine zx_iload_n C dX8_setPointer_24 2 rfl ?_
    obtain ⟨v6, ρ7, h8, hm⟩ := cll_e hm
    refine zx_callV (σ := σ) C [.int (p0), .int (p1)] tC_8 k2 i3 Y_X8_table W_4_113 W_4_115 Wp_25 (c_X8_table h8) (by decide) (by decide) rfl (Nat.le_of_ble_eq_true rfl) dX8_setPointer_25 rfl ?_
    obtain ⟨v9, ρ10, h11, hm⟩ := cll_e hm
    refine zx_callS (σ := ρ7) C [.long (v6)] Y_X8_cellOf W_4_117 W_4_118 (c_X8_cellOf h11) (by decide) (by decide) rfl (Nat.le_of_ble_eq_true rfl) dX8_setPointer_28 rfl ?_
    refine zx_iload_n C dX8_setPointer_31 2 rfl ?_
    refine zx_bipush (v := 8) C dX8_setPointer_32 (by decide) ?_
    refine zx_isub C dX8_setPointer_34 ?_
    refine zx_bipush (v := 32) C dX8_setPointer_35 (by decide) ?_
    refine zx_irem C dX8_setPointer_37 (by decide) ?_
    refine zx_lload_n C dX8_setPointer_38 3 rfl ?_
    obtain ⟨k12, i13, hm⟩ := ckO_e hm
    obtain ⟨v14, ρ15, h16, hm⟩ := cll_e hm
    refine zx_callV (σ := ρ10) C [.int (v9), .int (((p1) - (8)) - ((p1) - (8)) / (32) * (32)), .long (p2)] tC_5 k12 i13 Y_X5_setWord W_4_216 W_4_217 W_4_218 (c_X5_setWord h16) (by decide) (by decide) rfl (Nat.le_of_ble_eq_true rfl) dX8_setPointer_39 rfl ?_
    exact zx_lv [] [] rfl (j_X8_setPointer_42 C htab hin    hm)
  · replace hm := in_e hm c1
    refine zx_aload_n C dX8_setPointer_6 0 rfl ?_
    refine zx_iload_n C dX8_setPointer_7 1 rfl ?_
    refine zx_iconst (v := 1) C dX8_setPointer_8 (by decide) ?_
    refine zx_iload_n C dX8_setPointer_9 2 rfl ?_
    refine zx_iadd C dX8_setPointer_10 ?_
    refine zx_lload_n C dX8_setPointer_11 3 rfl ?_
    obtain ⟨k18, i19, hm⟩ := ckO_e hm
    obtain ⟨v20, ρ21, h22, hm⟩ := cll_e hm
    refine zx_callV (σ := σ) C [.int (p0), .int ((1) + (p1)), .long (p2)] tC_8 k18 i19 Y_X8_setNodeWord W_2_152 W_2_154 Wp_6 (c_X8_setNodeWord h22) (by decide) (by decide) rfl (Nat.le_of_ble_eq_true rfl) dX8_setPointer_12 rfl ?_
    refine zx_goto C 42 dX8_setPointer_15 (by decide) ?_
    exact zx_lv [] [] rfl (j_X8_setPointer_42 C htab hin    hm)
abbrev cX8_obtain : ByteArray := prog_10_method_29_code
def yX8_obtain : MethodName := ⟨"SyncTree$Tree", "obtain", "(II)V"⟩
theorem Y_X8_obtain : tY yX8_obtain cX8_obtain 5 none 2 := ⟨W_4_202, W_1_4, ⟨by decide +kernel, by decide +kernel⟩, by decide +kernel⟩
theorem dX8_obtain_0 : decode cX8_obtain 0 = .ok (.iload_n 2, 1) := by decide +kernel
theorem dX8_obtain_1 : decode cX8_obtain 1 = .ok (.ifCond .lt 21, 3) := by decide +kernel
theorem dX8_obtain_4 : decode cX8_obtain 4 = .ok (.iload_n 2, 1) := by decide +kernel
theorem dX8_obtain_5 : decode cX8_obtain 5 = .ok (.sipush 1064, 3) := by decide +kernel
theorem dX8_obtain_8 : decode cX8_obtain 8 = .ok (.if_icmp .ge 14, 3) := by decide +kernel
theorem dX8_obtain_11 : decode cX8_obtain 11 = .ok (.aload_n 0, 1) := by decide +kernel
theorem dX8_obtain_12 : decode cX8_obtain 12 = .ok (.iload_n 1, 1) := by decide +kernel
theorem dX8_obtain_13 : decode cX8_obtain 13 = .ok (.iload_n 2, 1) := by decide +kernel
theorem dX8_obtain_14 : decode cX8_obtain 14 = .ok (.invokevirtual 112, 3) := by decide +kernel
theorem dX8_obtain_17 : decode cX8_obtain 17 = .ok (.lconst 0, 1) := by decide +kernel
theorem dX8_obtain_18 : decode cX8_obtain 18 = .ok (.lcmp, 1) := by decide +kernel
theorem dX8_obtain_19 : decode cX8_obtain 19 = .ok (.ifCond .eq 4, 3) := by decide +kernel
theorem dX8_obtain_22 : decode cX8_obtain 22 = .ok (.return_, 1) := by decide +kernel
theorem dX8_obtain_23 : decode cX8_obtain 23 = .ok (.iload_n 2, 1) := by decide +kernel
theorem dX8_obtain_24 : decode cX8_obtain 24 = .ok (.bipush 40, 2) := by decide +kernel
theorem dX8_obtain_26 : decode cX8_obtain 26 = .ok (.if_icmp .lt 31, 3) := by decide +kernel
theorem dX8_obtain_29 : decode cX8_obtain 29 = .ok (.aload_n 0, 1) := by decide +kernel
theorem dX8_obtain_30 : decode cX8_obtain 30 = .ok (.iload_n 1, 1) := by decide +kernel
theorem dX8_obtain_31 : decode cX8_obtain 31 = .ok (.bipush 10, 2) := by decide +kernel
theorem dX8_obtain_33 : decode cX8_obtain 33 = .ok (.invokevirtual 30, 3) := by decide +kernel
theorem dX8_obtain_36 : decode cX8_obtain 36 = .ok (.lconst 0, 1) := by decide +kernel
theorem dX8_obtain_37 : decode cX8_obtain 37 = .ok (.lcmp, 1) := by decide +kernel
theorem dX8_obtain_38 : decode cX8_obtain 38 = .ok (.ifCond .ne 19, 3) := by decide +kernel
theorem dX8_obtain_41 : decode cX8_obtain 41 = .ok (.aload_n 0, 1) := by decide +kernel
theorem dX8_obtain_42 : decode cX8_obtain 42 = .ok (.iload_n 1, 1) := by decide +kernel
theorem dX8_obtain_43 : decode cX8_obtain 43 = .ok (.bipush 10, 2) := by decide +kernel
theorem dX8_obtain_45 : decode cX8_obtain 45 = .ok (.aload_n 0, 1) := by decide +kernel
theorem dX8_obtain_46 : decode cX8_obtain 46 = .ok (.getfield 15, 3) := by decide +kernel
theorem dX8_obtain_49 : decode cX8_obtain 49 = .ok (.iload_n 1, 1) := by decide +kernel
theorem dX8_obtain_50 : decode cX8_obtain 50 = .ok (.iconst 1, 1) := by decide +kernel
theorem dX8_obtain_51 : decode cX8_obtain 51 = .ok (.invokevirtual 115, 3) := by decide +kernel
theorem dX8_obtain_54 : decode cX8_obtain 54 = .ok (.invokevirtual 36, 3) := by decide +kernel
theorem dX8_obtain_57 : decode cX8_obtain 57 = .ok (.iload_n 2, 1) := by decide +kernel
theorem dX8_obtain_58 : decode cX8_obtain 58 = .ok (.bipush 8, 2) := by decide +kernel
theorem dX8_obtain_60 : decode cX8_obtain 60 = .ok (.if_icmp .lt 66, 3) := by decide +kernel
theorem dX8_obtain_63 : decode cX8_obtain 63 = .ok (.aload_n 0, 1) := by decide +kernel
theorem dX8_obtain_64 : decode cX8_obtain 64 = .ok (.iload_n 1, 1) := by decide +kernel
theorem dX8_obtain_65 : decode cX8_obtain 65 = .ok (.iload_n 2, 1) := by decide +kernel
theorem dX8_obtain_66 : decode cX8_obtain 66 = .ok (.invokevirtual 101, 3) := by decide +kernel
theorem dX8_obtain_69 : decode cX8_obtain 69 = .ok (.lconst 0, 1) := by decide +kernel
theorem dX8_obtain_70 : decode cX8_obtain 70 = .ok (.lcmp, 1) := by decide +kernel
theorem dX8_obtain_71 : decode cX8_obtain 71 = .ok (.ifCond .ne 55, 3) := by decide +kernel
theorem dX8_obtain_74 : decode cX8_obtain 74 = .ok (.aload_n 0, 1) := by decide +kernel
theorem dX8_obtain_75 : decode cX8_obtain 75 = .ok (.getfield 15, 3) := by decide +kernel
theorem dX8_obtain_78 : decode cX8_obtain 78 = .ok (.iload_n 1, 1) := by decide +kernel
theorem dX8_obtain_79 : decode cX8_obtain 79 = .ok (.iconst 1, 1) := by decide +kernel
theorem dX8_obtain_80 : decode cX8_obtain 80 = .ok (.invokevirtual 115, 3) := by decide +kernel
theorem dX8_obtain_83 : decode cX8_obtain 83 = .ok (.lstore_n 3, 1) := by decide +kernel
theorem dX8_obtain_84 : decode cX8_obtain 84 = .ok (.iload_n 2, 1) := by decide +kernel
theorem dX8_obtain_85 : decode cX8_obtain 85 = .ok (.bipush 40, 2) := by decide +kernel
theorem dX8_obtain_87 : decode cX8_obtain 87 = .ok (.if_icmp .ge 14, 3) := by decide +kernel
theorem dX8_obtain_90 : decode cX8_obtain 90 = .ok (.aload_n 0, 1) := by decide +kernel
theorem dX8_obtain_91 : decode cX8_obtain 91 = .ok (.iload_n 1, 1) := by decide +kernel
theorem dX8_obtain_92 : decode cX8_obtain 92 = .ok (.bipush 9, 2) := by decide +kernel
theorem dX8_obtain_94 : decode cX8_obtain 94 = .ok (.lload_n 3, 1) := by decide +kernel
theorem dX8_obtain_95 : decode cX8_obtain 95 = .ok (.invokevirtual 36, 3) := by decide +kernel
theorem dX8_obtain_98 : decode cX8_obtain 98 = .ok (.goto 28, 3) := by decide +kernel
theorem dX8_obtain_101 : decode cX8_obtain 101 = .ok (.aload_n 0, 1) := by decide +kernel
theorem dX8_obtain_102 : decode cX8_obtain 102 = .ok (.getfield 15, 3) := by decide +kernel
theorem dX8_obtain_105 : decode cX8_obtain 105 = .ok (.aload_n 0, 1) := by decide +kernel
theorem dX8_obtain_106 : decode cX8_obtain 106 = .ok (.iload_n 1, 1) := by decide +kernel
theorem dX8_obtain_107 : decode cX8_obtain 107 = .ok (.bipush 10, 2) := by decide +kernel
theorem dX8_obtain_109 : decode cX8_obtain 109 = .ok (.invokevirtual 30, 3) := by decide +kernel
theorem dX8_obtain_112 : decode cX8_obtain 112 = .ok (.invokestatic 104, 3) := by decide +kernel
theorem dX8_obtain_115 : decode cX8_obtain 115 = .ok (.iload_n 2, 1) := by decide +kernel
theorem dX8_obtain_116 : decode cX8_obtain 116 = .ok (.bipush 40, 2) := by decide +kernel
theorem dX8_obtain_118 : decode cX8_obtain 118 = .ok (.isub, 1) := by decide +kernel
theorem dX8_obtain_119 : decode cX8_obtain 119 = .ok (.bipush 32, 2) := by decide +kernel
theorem dX8_obtain_121 : decode cX8_obtain 121 = .ok (.idiv, 1) := by decide +kernel
theorem dX8_obtain_122 : decode cX8_obtain 122 = .ok (.lload_n 3, 1) := by decide +kernel
theorem dX8_obtain_123 : decode cX8_obtain 123 = .ok (.invokevirtual 108, 3) := by decide +kernel
theorem dX8_obtain_126 : decode cX8_obtain 126 = .ok (.aload_n 0, 1) := by decide +kernel
theorem dX8_obtain_127 : decode cX8_obtain 127 = .ok (.iload_n 1, 1) := by decide +kernel
theorem dX8_obtain_128 : decode cX8_obtain 128 = .ok (.iload_n 2, 1) := by decide +kernel
theorem dX8_obtain_129 : decode cX8_obtain 129 = .ok (.aload_n 0, 1) := by decide +kernel
theorem dX8_obtain_130 : decode cX8_obtain 130 = .ok (.getfield 15, 3) := by decide +kernel
theorem dX8_obtain_133 : decode cX8_obtain 133 = .ok (.iload_n 1, 1) := by decide +kernel
theorem dX8_obtain_134 : decode cX8_obtain 134 = .ok (.aload_n 0, 1) := by decide +kernel
theorem dX8_obtain_135 : decode cX8_obtain 135 = .ok (.iload_n 1, 1) := by decide +kernel
theorem dX8_obtain_136 : decode cX8_obtain 136 = .ok (.invokevirtual 40, 3) := by decide +kernel
theorem dX8_obtain_139 : decode cX8_obtain 139 = .ok (.iconst 2, 1) := by decide +kernel
theorem dX8_obtain_140 : decode cX8_obtain 140 = .ok (.if_icmp .ne 7, 3) := by decide +kernel
theorem dX8_obtain_143 : decode cX8_obtain 143 = .ok (.iconst 1, 1) := by decide +kernel
theorem dX8_obtain_144 : decode cX8_obtain 144 = .ok (.goto 4, 3) := by decide +kernel
theorem dX8_obtain_147 : decode cX8_obtain 147 = .ok (.iconst 0, 1) := by decide +kernel
theorem dX8_obtain_148 : decode cX8_obtain 148 = .ok (.invokevirtual 115, 3) := by decide +kernel
theorem dX8_obtain_151 : decode cX8_obtain 151 = .ok (.invokevirtual 119, 3) := by decide +kernel
theorem dX8_obtain_154 : decode cX8_obtain 154 = .ok (.aload_n 0, 1) := by decide +kernel
theorem dX8_obtain_155 : decode cX8_obtain 155 = .ok (.iload_n 1, 1) := by decide +kernel
theorem dX8_obtain_156 : decode cX8_obtain 156 = .ok (.iconst 1, 1) := by decide +kernel
theorem dX8_obtain_157 : decode cX8_obtain 157 = .ok (.invokevirtual 63, 3) := by decide +kernel
theorem dX8_obtain_160 : decode cX8_obtain 160 = .ok (.return_, 1) := by decide +kernel
set_option maxRecDepth 100000 in
set_option maxHeartbeats 1000000 in
theorem j_X8_obtain_22 {p : Program} {l : Launch} {e : Env} {s : State} {m : MethodId} {args : Array Value} {below : List Frame} {meth : Method} {c : Code} {D : va_G} {aC : Nat → ClassId} {b0 fu : Nat} {σ0 τ : tM} {v : Unit}  (C : tCx p l s m args meth c yX8_obtain.cls cX8_obtain 5 none D aC b0 σ0) (htab : ∀ x ∈ c.exceptionTable.toList, False) (hin : meth.name = yX8_obtain.name)   {σ : tM} (hm : J_X8_obtain_22 b0 fu   σ = some (v, τ)) : tX p l e s m args below meth c 5 3 72 D aC b0 σ0 (.inl none) τ 22 [] [] σ := by
  unfold J_X8_obtain_22 at hm
  obtain ⟨rfl, rfl⟩ := ret_e hm
  exact zx_vret C rfl rfl rfl dX8_obtain_22
set_option maxRecDepth 100000 in
set_option maxHeartbeats 1000000 in
theorem j_X8_obtain_148 {p : Program} {l : Launch} {e : Env} {s : State} {m : MethodId} {args : Array Value} {below : List Frame} {meth : Method} {c : Code} {D : va_G} {aC : Nat → ClassId} {b0 fu : Nat} {σ0 τ : tM} {v : Unit}  (C : tCx p l s m args meth c yX8_obtain.cls cX8_obtain 5 none D aC b0 σ0) (htab : ∀ x ∈ c.exceptionTable.toList, False) (hin : meth.name = yX8_obtain.name)  {x0 : Nat} {x1 : Int32} {s0 : Nat} {s1 : Int32} {s2 : Int32} {s3 : Nat} {s4 : Int32} {s5 : Int32} {σ : tM} (hm : J_X8_obtain_148 b0 fu  x0 x1 s0 s1 s2 s3 s4 s5 σ = some (v, τ)) : tX p l e s m args below meth c 5 3 72 D aC b0 σ0 (.inl none) τ 148 [(0, .ref (x0)), (1, .int (x1))] [.int (s5), .int (s4), .ref (s3), .int (s2), .int (s1), .ref (s0)] σ := by
  unfold J_X8_obtain_148 at hm
  obtain ⟨k19, i20, hm⟩ := ckO_e hm
  obtain ⟨v21, ρ22, h23, hm⟩ := cll_e hm
  refine zx_callV (σ := σ) C [.int (s4), .int (s5)] tC_5 k19 i20 Y_X5_obtain W_4_203 W_4_204 W_4_205 (c_X5_obtain h23) (by decide) (by decide) rfl (Nat.le_of_ble_eq_true rfl) dX8_obtain_148 rfl ?_
  obtain ⟨k24, i25, hm⟩ := ckO_e hm
  obtain ⟨v26, ρ27, h28, hm⟩ := cll_e hm
  refine zx_callV (σ := ρ22) C [.int (s1), .int (s2), .long (v21)] tC_8 k24 i25 Y_X8_setPointer W_4_220 W_4_222 Wp_31 (c_X8_setPointer h28) (by decide) (by decide) rfl (Nat.le_of_ble_eq_true rfl) dX8_obtain_151 rfl ?_
  refine zx_aload_n C dX8_obtain_154 0 rfl ?_
  refine zx_iload_n C dX8_obtain_155 1 rfl ?_
  refine zx_iconst (v := 1) C dX8_obtain_156 (by decide) ?_
  obtain ⟨k29, i30, hm⟩ := ckO_e hm
  obtain ⟨v31, ρ32, h33, hm⟩ := cll_e hm
  refine zx_callV (σ := ρ27) C [.int (x1), .int (1)] tC_8 k29 i30 Y_X8_noteChange W_2_160 W_2_162 Wp_7 (c_X8_noteChange h33) (by decide) (by decide) rfl (Nat.le_of_ble_eq_true rfl) dX8_obtain_157 rfl ?_
  obtain ⟨rfl, rfl⟩ := ret_e hm
  exact zx_vret C rfl rfl rfl dX8_obtain_160
set_option maxRecDepth 100000 in
set_option maxHeartbeats 1000000 in
theorem j_X8_obtain_126 {p : Program} {l : Launch} {e : Env} {s : State} {m : MethodId} {args : Array Value} {below : List Frame} {meth : Method} {c : Code} {D : va_G} {aC : Nat → ClassId} {b0 fu : Nat} {σ0 τ : tM} {v : Unit}  (C : tCx p l s m args meth c yX8_obtain.cls cX8_obtain 5 none D aC b0 σ0) (htab : ∀ x ∈ c.exceptionTable.toList, False) (hin : meth.name = yX8_obtain.name)  {x0 : Nat} {x1 : Int32} {x2 : Int32} {σ : tM} (hm : J_X8_obtain_126 b0 fu  x0 x1 x2 σ = some (v, τ)) : tX p l e s m args below meth c 5 3 72 D aC b0 σ0 (.inl none) τ 126 [(0, .ref (x0)), (1, .int (x1)), (2, .int (x2))] [] σ := by
  unfold J_X8_obtain_126 at hm
  refine zx_aload_n C dX8_obtain_126 0 rfl ?_
  refine zx_iload_n C dX8_obtain_127 1 rfl ?_
  refine zx_iload_n C dX8_obtain_128 2 rfl ?_
  refine zx_aload_n C dX8_obtain_129 0 rfl ?_
  obtain ⟨k11, i12, hm⟩ := ckO_e hm
  obtain ⟨a13, h14, hm⟩ := osm_e hm
  refine zx_get (j := 0) C tC_8 k11 i12 ⟨by decide, Or.inl W_1_163⟩ dX8_obtain_130 (.ref a13) (rf_s h14) ?_
  refine zx_iload_n C dX8_obtain_133 1 rfl ?_
  refine zx_aload_n C dX8_obtain_134 0 rfl ?_
  refine zx_iload_n C dX8_obtain_135 1 rfl ?_
  obtain ⟨v15, ρ16, h17, hm⟩ := cll_e hm
  refine zx_callV (σ := σ) C [.int (x1)] tC_8 k11 i12 Y_X8_kind W_3_79 W_3_80 W_3_81 (c_X8_kind h17) (by decide) (by decide) rfl (Nat.le_of_ble_eq_true rfl) dX8_obtain_136 rfl ?_
  refine zx_iconst (v := 2) C dX8_obtain_139 (by decide) ?_
  refine zx_icmp_ne C 147 dX8_obtain_140 (by decide) (fun c18 => ?_) (fun c18 => ?_)
  · replace hm := in_e hm c18
    refine zx_iconst (v := 0) C dX8_obtain_147 (by decide) ?_
    exact zx_lv [0, 1] [(0, .ref (x0)), (1, .int (x1))] rfl (j_X8_obtain_148 C htab hin    hm)
  · replace hm := ip_e hm c18
    refine zx_iconst (v := 1) C dX8_obtain_143 (by decide) ?_
    refine zx_goto C 148 dX8_obtain_144 (by decide) ?_
    exact zx_lv [0, 1] [(0, .ref (x0)), (1, .int (x1))] rfl (j_X8_obtain_148 C htab hin    hm)
set_option maxRecDepth 100000 in
set_option maxHeartbeats 1000000 in
theorem j_X8_obtain_57 {p : Program} {l : Launch} {e : Env} {s : State} {m : MethodId} {args : Array Value} {below : List Frame} {meth : Method} {c : Code} {D : va_G} {aC : Nat → ClassId} {b0 fu : Nat} {σ0 τ : tM} {v : Unit}  (C : tCx p l s m args meth c yX8_obtain.cls cX8_obtain 5 none D aC b0 σ0) (htab : ∀ x ∈ c.exceptionTable.toList, False) (hin : meth.name = yX8_obtain.name)  {x0 : Nat} {x1 : Int32} {x2 : Int32} {σ : tM} (hm : J_X8_obtain_57 b0 fu  x0 x1 x2 σ = some (v, τ)) : tX p l e s m args below meth c 5 3 72 D aC b0 σ0 (.inl none) τ 57 [(0, .ref (x0)), (1, .int (x1)), (2, .int (x2))] [] σ := by
  unfold J_X8_obtain_57 at hm
  refine zx_iload_n C dX8_obtain_57 2 rfl ?_
  refine zx_bipush (v := 8) C dX8_obtain_58 (by decide) ?_
  refine zx_icmp_lt C 126 dX8_obtain_60 (by decide) (fun c10 => ?_) (fun c10 => ?_)
  · replace hm := ip_e hm c10
    exact zx_lv [0, 1, 2] [(0, .ref (x0)), (1, .int (x1)), (2, .int (x2))] rfl (j_X8_obtain_126 C htab hin    hm)
  · replace hm := in_e hm c10
    refine zx_aload_n C dX8_obtain_63 0 rfl ?_
    refine zx_iload_n C dX8_obtain_64 1 rfl ?_
    refine zx_iload_n C dX8_obtain_65 2 rfl ?_
    obtain ⟨k34, i35, hm⟩ := ckO_e hm
    obtain ⟨v36, ρ37, h38, hm⟩ := cll_e hm
    refine zx_callV (σ := σ) C [.int (x1), .int (x2)] tC_8 k34 i35 Y_X8_table W_4_113 W_4_115 Wp_25 (c_X8_table h38) (by decide) (by decide) rfl (Nat.le_of_ble_eq_true rfl) dX8_obtain_66 rfl ?_
    refine zx_lconst (v := 0) C dX8_obtain_69 (by decide) ?_
    refine zx_lcmp C dX8_obtain_70 ?_
    refine zx_if_ne C 126 dX8_obtain_71 (by decide) (fun c39 => ?_) (fun c39 => ?_)
    · replace hm := in_e hm c39
      exact zx_lv [0, 1, 2] [(0, .ref (x0)), (1, .int (x1)), (2, .int (x2))] rfl (j_X8_obtain_126 C htab hin    hm)
    · replace hm := ip_e hm c39
      refine zx_aload_n C dX8_obtain_74 0 rfl ?_
      obtain ⟨k40, i41, hm⟩ := ckO_e hm
      obtain ⟨a42, h43, hm⟩ := osm_e hm
      refine zx_get (j := 0) C tC_8 k40 i41 ⟨by decide, Or.inl W_1_163⟩ dX8_obtain_75 (.ref a42) (rf_s h43) ?_
      refine zx_iload_n C dX8_obtain_78 1 rfl ?_
      refine zx_iconst (v := 1) C dX8_obtain_79 (by decide) ?_
      obtain ⟨k44, i45, hm⟩ := ckO_e hm
      obtain ⟨v46, ρ47, h48, hm⟩ := cll_e hm
      refine zx_callV (σ := ρ37) C [.int (x1), .int (1)] tC_5 k44 i45 Y_X5_obtain W_4_203 W_4_204 W_4_205 (c_X5_obtain h48) (by decide) (by decide) rfl (Nat.le_of_ble_eq_true rfl) dX8_obtain_80 rfl ?_
      refine zx_lstore_n C [(3, .long (v46)), (0, .ref (x0)), (1, .int (x1)), (2, .int (x2))] dX8_obtain_83 rfl (by decide) rfl ?_
      refine zx_iload_n C dX8_obtain_84 3 rfl ?_
      refine zx_bipush (v := 40) C dX8_obtain_85 (by decide) ?_
      refine zx_icmp_ge C 101 dX8_obtain_87 (by decide) (fun c49 => ?_) (fun c49 => ?_)
      · replace hm := ip_e hm c49
        refine zx_aload_n C dX8_obtain_101 1 rfl ?_
        obtain ⟨k50, i51, hm⟩ := ckO_e hm
        obtain ⟨a52, h53, hm⟩ := osm_e hm
        refine zx_get (j := 0) C tC_8 k50 i51 ⟨by decide, Or.inl W_1_163⟩ dX8_obtain_102 (.ref a52) (rf_s h53) ?_
        refine zx_aload_n C dX8_obtain_105 1 rfl ?_
        refine zx_iload_n C dX8_obtain_106 2 rfl ?_
        refine zx_bipush (v := 10) C dX8_obtain_107 (by decide) ?_
        obtain ⟨v54, ρ55, h56, hm⟩ := cll_e hm
        refine zx_callV (σ := ρ47) C [.int (x1), .int (10)] tC_8 k50 i51 Y_X8_nodeWord W_3_83 W_3_84 W_3_85 (c_X8_nodeWord h56) (by decide) (by decide) rfl (Nat.le_of_ble_eq_true rfl) dX8_obtain_109 rfl ?_
        obtain ⟨v57, ρ58, h59, hm⟩ := cll_e hm
        refine zx_callS (σ := ρ55) C [.long (v54)] Y_X8_cellOf W_4_117 W_4_118 (c_X8_cellOf h59) (by decide) (by decide) rfl (Nat.le_of_ble_eq_true rfl) dX8_obtain_112 rfl ?_
        refine zx_iload_n C dX8_obtain_115 3 rfl ?_
        refine zx_bipush (v := 40) C dX8_obtain_116 (by decide) ?_
        refine zx_isub C dX8_obtain_118 ?_
        refine zx_bipush (v := 32) C dX8_obtain_119 (by decide) ?_
        refine zx_idiv C dX8_obtain_121 (by decide) ?_
        refine zx_lload_n C dX8_obtain_122 0 rfl ?_
        obtain ⟨k60, i61, hm⟩ := ckO_e hm
        obtain ⟨v62, ρ63, h64, hm⟩ := cll_e hm
        refine zx_callV (σ := ρ58) C [.int (v57), .int (((x2) - (40)) / (32)), .long (v46)] tC_5 k60 i61 Y_X5_setWord W_4_216 W_4_217 W_4_218 (c_X5_setWord h64) (by decide) (by decide) rfl (Nat.le_of_ble_eq_true rfl) dX8_obtain_123 rfl ?_
        exact zx_lv [1, 2, 3] [(0, .ref (x0)), (1, .int (x1)), (2, .int (x2))] rfl (j_X8_obtain_126 C htab hin    hm)
      · replace hm := in_e hm c49
        refine zx_aload_n C dX8_obtain_90 1 rfl ?_
        refine zx_iload_n C dX8_obtain_91 2 rfl ?_
        refine zx_bipush (v := 9) C dX8_obtain_92 (by decide) ?_
        refine zx_lload_n C dX8_obtain_94 0 rfl ?_
        obtain ⟨k66, i67, hm⟩ := ckO_e hm
        obtain ⟨v68, ρ69, h70, hm⟩ := cll_e hm
        refine zx_callV (σ := ρ47) C [.int (x1), .int (9), .long (v46)] tC_8 k66 i67 Y_X8_setNodeWord W_2_152 W_2_154 Wp_6 (c_X8_setNodeWord h70) (by decide) (by decide) rfl (Nat.le_of_ble_eq_true rfl) dX8_obtain_95 rfl ?_
        refine zx_goto C 126 dX8_obtain_98 (by decide) ?_
        exact zx_lv [1, 2, 3] [(0, .ref (x0)), (1, .int (x1)), (2, .int (x2))] rfl (j_X8_obtain_126 C htab hin    hm)
set_option maxRecDepth 100000 in
set_option maxHeartbeats 1000000 in
theorem c_X8_obtain {l : Launch} {D : va_G} {aC : Nat → ClassId} {b0 fu : Nat} {a0 : Nat} {p0 : Int32} {p1 : Int32} {σ τ : tM} {v : Unit} (hm : m_X8_obtain b0 fu a0 p0 p1 σ = some (v, τ)) : tMt l D aC b0 yX8_obtain (Cond.code yX8_obtain cX8_obtain 5 none) 3 72 [.ref (a0), .int (p0), .int (p1)] σ (.inl none) τ := by
  unfold m_X8_obtain at hm
  obtain ⟨hg, hm⟩ := grw_e hm
  refine tMt_of (n := 0) rfl (Nat.le_of_ble_eq_true rfl) hg ?_
  intro p e s m below meth c C htab hin
  refine zx_lv [0, 1, 2] [(0, .ref (a0)), (1, .int (p0)), (2, .int (p1))] rfl ?_
  refine zx_iload_n C dX8_obtain_0 2 rfl ?_
  refine zx_if_lt C 22 dX8_obtain_1 (by decide) (fun c1 => ?_) (fun c1 => ?_)
  · replace hm := ip_e hm c1
    exact zx_lv [] [] rfl (j_X8_obtain_22 C htab hin    hm)
  · replace hm := in_e hm c1
    refine zx_iload_n C dX8_obtain_4 2 rfl ?_
    refine zx_sipush (v := 1064) C dX8_obtain_5 (by decide) ?_
    refine zx_icmp_ge C 22 dX8_obtain_8 (by decide) (fun c2 => ?_) (fun c2 => ?_)
    · replace hm := ip_e hm c2
      exact zx_lv [] [] rfl (j_X8_obtain_22 C htab hin    hm)
    · replace hm := in_e hm c2
      refine zx_aload_n C dX8_obtain_11 0 rfl ?_
      refine zx_iload_n C dX8_obtain_12 1 rfl ?_
      refine zx_iload_n C dX8_obtain_13 2 rfl ?_
      obtain ⟨k3, i4, hm⟩ := ckO_e hm
      obtain ⟨v5, ρ6, h7, hm⟩ := cll_e hm
      refine zx_callV (σ := σ) C [.int (p0), .int (p1)] tC_8 k3 i4 Y_X8_pointer W_4_109 W_4_110 W_4_111 (c_X8_pointer h7) (by decide) (by decide) rfl (Nat.le_of_ble_eq_true rfl) dX8_obtain_14 rfl ?_
      refine zx_lconst (v := 0) C dX8_obtain_17 (by decide) ?_
      refine zx_lcmp C dX8_obtain_18 ?_
      refine zx_if_eq C 23 dX8_obtain_19 (by decide) (fun c8 => ?_) (fun c8 => ?_)
      · replace hm := ip_e hm c8
        refine zx_iload_n C dX8_obtain_23 2 rfl ?_
        refine zx_bipush (v := 40) C dX8_obtain_24 (by decide) ?_
        refine zx_icmp_lt C 57 dX8_obtain_26 (by decide) (fun c9 => ?_) (fun c9 => ?_)
        · replace hm := ip_e hm c9
          exact zx_lv [0, 1, 2] [(0, .ref (a0)), (1, .int (p0)), (2, .int (p1))] rfl (j_X8_obtain_57 C htab hin    hm)
        · replace hm := in_e hm c9
          refine zx_aload_n C dX8_obtain_29 0 rfl ?_
          refine zx_iload_n C dX8_obtain_30 1 rfl ?_
          refine zx_bipush (v := 10) C dX8_obtain_31 (by decide) ?_
          obtain ⟨k71, i72, hm⟩ := ckO_e hm
          obtain ⟨v73, ρ74, h75, hm⟩ := cll_e hm
          refine zx_callV (σ := ρ6) C [.int (p0), .int (10)] tC_8 k71 i72 Y_X8_nodeWord W_3_83 W_3_84 W_3_85 (c_X8_nodeWord h75) (by decide) (by decide) rfl (Nat.le_of_ble_eq_true rfl) dX8_obtain_33 rfl ?_
          refine zx_lconst (v := 0) C dX8_obtain_36 (by decide) ?_
          refine zx_lcmp C dX8_obtain_37 ?_
          refine zx_if_ne C 57 dX8_obtain_38 (by decide) (fun c76 => ?_) (fun c76 => ?_)
          · replace hm := in_e hm c76
            exact zx_lv [0, 1, 2] [(0, .ref (a0)), (1, .int (p0)), (2, .int (p1))] rfl (j_X8_obtain_57 C htab hin    hm)
          · replace hm := ip_e hm c76
            refine zx_aload_n C dX8_obtain_41 0 rfl ?_
            refine zx_iload_n C dX8_obtain_42 1 rfl ?_
            refine zx_bipush (v := 10) C dX8_obtain_43 (by decide) ?_
            refine zx_aload_n C dX8_obtain_45 0 rfl ?_
            obtain ⟨k77, i78, hm⟩ := ckO_e hm
            obtain ⟨a79, h80, hm⟩ := osm_e hm
            refine zx_get (j := 0) C tC_8 k77 i78 ⟨by decide, Or.inl W_1_163⟩ dX8_obtain_46 (.ref a79) (rf_s h80) ?_
            refine zx_iload_n C dX8_obtain_49 1 rfl ?_
            refine zx_iconst (v := 1) C dX8_obtain_50 (by decide) ?_
            obtain ⟨k81, i82, hm⟩ := ckO_e hm
            obtain ⟨v83, ρ84, h85, hm⟩ := cll_e hm
            refine zx_callV (σ := ρ74) C [.int (p0), .int (1)] tC_5 k81 i82 Y_X5_obtain W_4_203 W_4_204 W_4_205 (c_X5_obtain h85) (by decide) (by decide) rfl (Nat.le_of_ble_eq_true rfl) dX8_obtain_51 rfl ?_
            obtain ⟨k86, i87, hm⟩ := ckO_e hm
            obtain ⟨v88, ρ89, h90, hm⟩ := cll_e hm
            refine zx_callV (σ := ρ84) C [.int (p0), .int (10), .long (v83)] tC_8 k86 i87 Y_X8_setNodeWord W_2_152 W_2_154 Wp_6 (c_X8_setNodeWord h90) (by decide) (by decide) rfl (Nat.le_of_ble_eq_true rfl) dX8_obtain_54 rfl ?_
            exact zx_lv [0, 1, 2] [(0, .ref (a0)), (1, .int (p0)), (2, .int (p1))] rfl (j_X8_obtain_57 C htab hin    hm)
      · replace hm := in_e hm c8
        exact zx_lv [] [] rfl (j_X8_obtain_22 C htab hin    hm)
abbrev cX8_dropIfEmpty : ByteArray := prog_10_method_31_code
def yX8_dropIfEmpty : MethodName := ⟨"SyncTree$Tree", "dropIfEmpty", "(II)V"⟩
theorem Y_X8_dropIfEmpty : tY yX8_dropIfEmpty cX8_dropIfEmpty 4 none 2 := ⟨W_5_57, W_1_4, ⟨by decide +kernel, by decide +kernel⟩, by decide +kernel⟩
theorem dX8_dropIfEmpty_0 : decode cX8_dropIfEmpty 0 = .ok (.aload_n 0, 1) := by decide +kernel
theorem dX8_dropIfEmpty_1 : decode cX8_dropIfEmpty 1 = .ok (.iload_n 1, 1) := by decide +kernel
theorem dX8_dropIfEmpty_2 : decode cX8_dropIfEmpty 2 = .ok (.iload_n 2, 1) := by decide +kernel
theorem dX8_dropIfEmpty_3 : decode cX8_dropIfEmpty 3 = .ok (.invokevirtual 30, 3) := by decide +kernel
theorem dX8_dropIfEmpty_6 : decode cX8_dropIfEmpty 6 = .ok (.invokestatic 104, 3) := by decide +kernel
theorem dX8_dropIfEmpty_9 : decode cX8_dropIfEmpty 9 = .ok (.istore_n 3, 1) := by decide +kernel
theorem dX8_dropIfEmpty_10 : decode cX8_dropIfEmpty 10 = .ok (.aload_n 0, 1) := by decide +kernel
theorem dX8_dropIfEmpty_11 : decode cX8_dropIfEmpty 11 = .ok (.getfield 15, 3) := by decide +kernel
theorem dX8_dropIfEmpty_14 : decode cX8_dropIfEmpty 14 = .ok (.iload_n 3, 1) := by decide +kernel
theorem dX8_dropIfEmpty_15 : decode cX8_dropIfEmpty 15 = .ok (.iconst 0, 1) := by decide +kernel
theorem dX8_dropIfEmpty_16 : decode cX8_dropIfEmpty 16 = .ok (.invokevirtual 126, 3) := by decide +kernel
theorem dX8_dropIfEmpty_19 : decode cX8_dropIfEmpty 19 = .ok (.ifCond .eq 19, 3) := by decide +kernel
theorem dX8_dropIfEmpty_22 : decode cX8_dropIfEmpty 22 = .ok (.aload_n 0, 1) := by decide +kernel
theorem dX8_dropIfEmpty_23 : decode cX8_dropIfEmpty 23 = .ok (.iload_n 1, 1) := by decide +kernel
theorem dX8_dropIfEmpty_24 : decode cX8_dropIfEmpty 24 = .ok (.iload_n 2, 1) := by decide +kernel
theorem dX8_dropIfEmpty_25 : decode cX8_dropIfEmpty 25 = .ok (.lconst 0, 1) := by decide +kernel
theorem dX8_dropIfEmpty_26 : decode cX8_dropIfEmpty 26 = .ok (.invokevirtual 36, 3) := by decide +kernel
theorem dX8_dropIfEmpty_29 : decode cX8_dropIfEmpty 29 = .ok (.aload_n 0, 1) := by decide +kernel
theorem dX8_dropIfEmpty_30 : decode cX8_dropIfEmpty 30 = .ok (.getfield 15, 3) := by decide +kernel
theorem dX8_dropIfEmpty_33 : decode cX8_dropIfEmpty 33 = .ok (.iload_n 3, 1) := by decide +kernel
theorem dX8_dropIfEmpty_34 : decode cX8_dropIfEmpty 34 = .ok (.iconst 1, 1) := by decide +kernel
theorem dX8_dropIfEmpty_35 : decode cX8_dropIfEmpty 35 = .ok (.invokevirtual 122, 3) := by decide +kernel
theorem dX8_dropIfEmpty_38 : decode cX8_dropIfEmpty 38 = .ok (.return_, 1) := by decide +kernel
set_option maxRecDepth 100000 in
set_option maxHeartbeats 1000000 in
theorem j_X8_dropIfEmpty_38 {p : Program} {l : Launch} {e : Env} {s : State} {m : MethodId} {args : Array Value} {below : List Frame} {meth : Method} {c : Code} {D : va_G} {aC : Nat → ClassId} {b0 fu : Nat} {σ0 τ : tM} {v : Unit}  (C : tCx p l s m args meth c yX8_dropIfEmpty.cls cX8_dropIfEmpty 4 none D aC b0 σ0) (htab : ∀ x ∈ c.exceptionTable.toList, False) (hin : meth.name = yX8_dropIfEmpty.name)   {σ : tM} (hm : J_X8_dropIfEmpty_38 b0 fu   σ = some (v, τ)) : tX p l e s m args below meth c 4 2 48 D aC b0 σ0 (.inl none) τ 38 [] [] σ := by
  unfold J_X8_dropIfEmpty_38 at hm
  obtain ⟨rfl, rfl⟩ := ret_e hm
  exact zx_vret C rfl rfl rfl dX8_dropIfEmpty_38
set_option maxRecDepth 100000 in
set_option maxHeartbeats 1000000 in
theorem c_X8_dropIfEmpty {l : Launch} {D : va_G} {aC : Nat → ClassId} {b0 fu : Nat} {a0 : Nat} {p0 : Int32} {p1 : Int32} {σ τ : tM} {v : Unit} (hm : m_X8_dropIfEmpty b0 fu a0 p0 p1 σ = some (v, τ)) : tMt l D aC b0 yX8_dropIfEmpty (Cond.code yX8_dropIfEmpty cX8_dropIfEmpty 4 none) 2 48 [.ref (a0), .int (p0), .int (p1)] σ (.inl none) τ := by
  unfold m_X8_dropIfEmpty at hm
  obtain ⟨hg, hm⟩ := grw_e hm
  refine tMt_of (n := 0) rfl (Nat.le_of_ble_eq_true rfl) hg ?_
  intro p e s m below meth c C htab hin
  refine zx_lv [0, 1, 2] [(0, .ref (a0)), (1, .int (p0)), (2, .int (p1))] rfl ?_
  refine zx_aload_n C dX8_dropIfEmpty_0 0 rfl ?_
  refine zx_iload_n C dX8_dropIfEmpty_1 1 rfl ?_
  refine zx_iload_n C dX8_dropIfEmpty_2 2 rfl ?_
  obtain ⟨k1, i2, hm⟩ := ckO_e hm
  obtain ⟨v3, ρ4, h5, hm⟩ := cll_e hm
  refine zx_callV (σ := σ) C [.int (p0), .int (p1)] tC_8 k1 i2 Y_X8_nodeWord W_3_83 W_3_84 W_3_85 (c_X8_nodeWord h5) (by decide) (by decide) rfl (Nat.le_of_ble_eq_true rfl) dX8_dropIfEmpty_3 rfl ?_
  obtain ⟨v6, ρ7, h8, hm⟩ := cll_e hm
  refine zx_callS (σ := ρ4) C [.long (v3)] Y_X8_cellOf W_4_117 W_4_118 (c_X8_cellOf h8) (by decide) (by decide) rfl (Nat.le_of_ble_eq_true rfl) dX8_dropIfEmpty_6 rfl ?_
  refine zx_istore_n C [(3, .int (v6)), (0, .ref (a0)), (1, .int (p0)), (2, .int (p1))] dX8_dropIfEmpty_9 rfl (by decide) rfl ?_
  refine zx_aload_n C dX8_dropIfEmpty_10 1 rfl ?_
  obtain ⟨k9, i10, hm⟩ := ckO_e hm
  obtain ⟨a11, h12, hm⟩ := osm_e hm
  refine zx_get (j := 0) C tC_8 k9 i10 ⟨by decide, Or.inl W_1_163⟩ dX8_dropIfEmpty_11 (.ref a11) (rf_s h12) ?_
  refine zx_iload_n C dX8_dropIfEmpty_14 0 rfl ?_
  refine zx_iconst (v := 0) C dX8_dropIfEmpty_15 (by decide) ?_
  obtain ⟨k13, i14, hm⟩ := ckO_e hm
  obtain ⟨v15, ρ16, h17, hm⟩ := cll_e hm
  refine zx_callV (σ := ρ7) C [.int (v6), .int (0)] tC_5 k13 i14 Y_X5_isZeroFrom W_5_37 W_5_38 W_5_39 (c_X5_isZeroFrom h17) (by decide) (by decide) rfl (Nat.le_of_ble_eq_true rfl) dX8_dropIfEmpty_16 rfl ?_
  refine zx_if_eq C 38 dX8_dropIfEmpty_19 (by decide) (fun c18 => ?_) (fun c18 => ?_)
  · replace hm := ip_e hm c18
    exact zx_lv [] [] rfl (j_X8_dropIfEmpty_38 C htab hin    hm)
  · replace hm := in_e hm c18
    refine zx_aload_n C dX8_dropIfEmpty_22 1 rfl ?_
    refine zx_iload_n C dX8_dropIfEmpty_23 2 rfl ?_
    refine zx_iload_n C dX8_dropIfEmpty_24 3 rfl ?_
    refine zx_lconst (v := 0) C dX8_dropIfEmpty_25 (by decide) ?_
    obtain ⟨k19, i20, hm⟩ := ckO_e hm
    obtain ⟨v21, ρ22, h23, hm⟩ := cll_e hm
    refine zx_callV (σ := ρ16) C [.int (p0), .int (p1), .long (0)] tC_8 k19 i20 Y_X8_setNodeWord W_2_152 W_2_154 Wp_6 (c_X8_setNodeWord h23) (by decide) (by decide) rfl (Nat.le_of_ble_eq_true rfl) dX8_dropIfEmpty_26 rfl ?_
    refine zx_aload_n C dX8_dropIfEmpty_29 1 rfl ?_
    obtain ⟨k24, i25, hm⟩ := ckO_e hm
    obtain ⟨a26, h27, hm⟩ := osm_e hm
    refine zx_get (j := 0) C tC_8 k24 i25 ⟨by decide, Or.inl W_1_163⟩ dX8_dropIfEmpty_30 (.ref a26) (rf_s h27) ?_
    refine zx_iload_n C dX8_dropIfEmpty_33 0 rfl ?_
    refine zx_iconst (v := 1) C dX8_dropIfEmpty_34 (by decide) ?_
    obtain ⟨k28, i29, hm⟩ := ckO_e hm
    obtain ⟨v30, ρ31, h32, hm⟩ := cll_e hm
    refine zx_callV (σ := ρ22) C [.int (v6), .int (1)] tC_5 k28 i29 Y_X5_release W_5_46 W_5_47 W_5_48 (c_X5_release h32) (by decide) (by decide) rfl (Nat.le_of_ble_eq_true rfl) dX8_dropIfEmpty_35 rfl ?_
    exact zx_lv [] [] rfl (j_X8_dropIfEmpty_38 C htab hin    hm)
