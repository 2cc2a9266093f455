abbrev cX4_init : ByteArray := prog_6_method_1_code
def yX4_init : MethodName := ⟨"SyncTree$Row", "<init>", "()V"⟩
theorem Y_X4_init : tY yX4_init cX4_init 1 none 0 := ⟨W_2_187, W_1_13, ⟨by decide +kernel, by decide +kernel⟩, by decide +kernel⟩
theorem dX4_init_0 : decode cX4_init 0 = .ok (.aload_n 0, 1) := by decide +kernel
theorem dX4_init_1 : decode cX4_init 1 = .ok (.invokespecial 3, 3) := by decide +kernel
theorem dX4_init_4 : decode cX4_init 4 = .ok (.aload_n 0, 1) := by decide +kernel
theorem dX4_init_5 : decode cX4_init 5 = .ok (.bipush 32, 2) := by decide +kernel
theorem dX4_init_7 : decode cX4_init 7 = .ok (.newarray .long, 2) := by decide +kernel
theorem dX4_init_9 : decode cX4_init 9 = .ok (.putfield 9, 3) := by decide +kernel
theorem dX4_init_12 : decode cX4_init 12 = .ok (.return_, 1) := by decide +kernel
set_option maxRecDepth 100000 in
set_option maxHeartbeats 1000000 in
theorem c_X4_init {l : Launch} {D : va_G} {aC : Nat → ClassId} {b0 fu : Nat} {a0 : Nat} {σ τ : tM} {v : Unit} (hm : m_X4_init b0 fu a0 σ = some (v, τ)) : tMt l D aC b0 yX4_init (Cond.code yX4_init cX4_init 1 none) 1 20 [.ref (a0)] σ (.inl none) τ := by
  unfold m_X4_init at hm
  obtain ⟨hg, hm⟩ := grw_e hm
  refine tMt_of (n := 0) rfl (Nat.le_of_ble_eq_true rfl) hg ?_
  intro p e s m below meth c C htab hin
  refine zx_lv [0] [(0, .ref (a0))] rfl ?_
  refine zx_aload_n C dX4_init_0 0 rfl ?_
  refine zx_obj C W_2_188 W_1_26 W_1_27 (by decide) (by decide) (Nat.le_of_ble_eq_true rfl) dX4_init_1 ?_
  refine zx_aload_n C dX4_init_4 0 rfl ?_
  refine zx_bipush (v := 32) C dX4_init_5 (by decide) ?_
  refine zx_newJ C W_1_155 (by decide) (by decide) dX4_init_7 ?_
  refine zx_mem (fun ρ1 hρ1 => ?_)
  replace hm := ltb_e hm hρ1
  have k2 : tk ρ1 (b0 + tn σ) = .inr (3, ((32 : Int32)).toNatClampNeg) := by rw [hρ1]; exact sN_k _ _ _ _
  have i3 : tIn b0 ρ1 (b0 + tn σ) := by rw [hρ1]; exact sN_i _ _ _ _
  obtain ⟨k4, i5, hm⟩ := ckO_e hm
  refine zx_putF (j := 0) (ρ := sA (ρ1) (a0) 0 (some (b0 + tn σ))) C hin tC_4 k4 i5 (by decide) W_2_189 rfl rfl rfl rfl (sA_ok (fun _ => rfl)) dX4_init_9 ?_
  obtain ⟨rfl, rfl⟩ := ret_e hm
  exact zx_vret C rfl rfl rfl dX4_init_12
abbrev cX5_init : ByteArray := prog_7_method_1_code
def yX5_init : MethodName := ⟨"SyncTree$Space", "<init>", "()V"⟩
theorem Y_X5_init : tY yX5_init cX5_init 1 none 0 := ⟨W_1_91, W_1_3, ⟨by decide +kernel, by decide +kernel⟩, by decide +kernel⟩
theorem dX5_init_0 : decode cX5_init 0 = .ok (.aload_n 0, 1) := by decide +kernel
theorem dX5_init_1 : decode cX5_init 1 = .ok (.invokespecial 3, 3) := by decide +kernel
theorem dX5_init_4 : decode cX5_init 4 = .ok (.aload_n 0, 1) := by decide +kernel
theorem dX5_init_5 : decode cX5_init 5 = .ok (.ldc 9, 2) := by decide +kernel
theorem dX5_init_7 : decode cX5_init 7 = .ok (.newarray .long, 2) := by decide +kernel
theorem dX5_init_9 : decode cX5_init 9 = .ok (.putfield 10, 3) := by decide +kernel
theorem dX5_init_12 : decode cX5_init 12 = .ok (.aload_n 0, 1) := by decide +kernel
theorem dX5_init_13 : decode cX5_init 13 = .ok (.sipush 2034, 3) := by decide +kernel
theorem dX5_init_16 : decode cX5_init 16 = .ok (.newarray .int, 2) := by decide +kernel
theorem dX5_init_18 : decode cX5_init 18 = .ok (.putfield 16, 3) := by decide +kernel
theorem dX5_init_21 : decode cX5_init 21 = .ok (.aload_n 0, 1) := by decide +kernel
theorem dX5_init_22 : decode cX5_init 22 = .ok (.sipush 2034, 3) := by decide +kernel
theorem dX5_init_25 : decode cX5_init 25 = .ok (.newarray .int, 2) := by decide +kernel
theorem dX5_init_27 : decode cX5_init 27 = .ok (.putfield 20, 3) := by decide +kernel
theorem dX5_init_30 : decode cX5_init 30 = .ok (.aload_n 0, 1) := by decide +kernel
theorem dX5_init_31 : decode cX5_init 31 = .ok (.sipush 2034, 3) := by decide +kernel
theorem dX5_init_34 : decode cX5_init 34 = .ok (.newarray .byte, 2) := by decide +kernel
theorem dX5_init_36 : decode cX5_init 36 = .ok (.putfield 23, 3) := by decide +kernel
theorem dX5_init_39 : decode cX5_init 39 = .ok (.aload_n 0, 1) := by decide +kernel
theorem dX5_init_40 : decode cX5_init 40 = .ok (.sipush 2034, 3) := by decide +kernel
theorem dX5_init_43 : decode cX5_init 43 = .ok (.newarray .byte, 2) := by decide +kernel
theorem dX5_init_45 : decode cX5_init 45 = .ok (.putfield 27, 3) := by decide +kernel
theorem dX5_init_48 : decode cX5_init 48 = .ok (.aload_n 0, 1) := by decide +kernel
theorem dX5_init_49 : decode cX5_init 49 = .ok (.sipush 2034, 3) := by decide +kernel
theorem dX5_init_52 : decode cX5_init 52 = .ok (.newarray .byte, 2) := by decide +kernel
theorem dX5_init_54 : decode cX5_init 54 = .ok (.putfield 30, 3) := by decide +kernel
theorem dX5_init_57 : decode cX5_init 57 = .ok (.aload_n 0, 1) := by decide +kernel
theorem dX5_init_58 : decode cX5_init 58 = .ok (.sipush 2034, 3) := by decide +kernel
theorem dX5_init_61 : decode cX5_init 61 = .ok (.newarray .byte, 2) := by decide +kernel
theorem dX5_init_63 : decode cX5_init 63 = .ok (.putfield 33, 3) := by decide +kernel
theorem dX5_init_66 : decode cX5_init 66 = .ok (.return_, 1) := by decide +kernel
set_option maxRecDepth 100000 in
set_option maxHeartbeats 1000000 in
theorem c_X5_init {l : Launch} {D : va_G} {aC : Nat → ClassId} {b0 fu : Nat} {a0 : Nat} {σ τ : tM} {v : Unit} (hm : m_X5_init b0 fu a0 σ = some (v, τ)) : tMt l D aC b0 yX5_init (Cond.code yX5_init cX5_init 1 none) 1 20 [.ref (a0)] σ (.inl none) τ := by
  unfold m_X5_init at hm
  obtain ⟨hg, hm⟩ := grw_e hm
  refine tMt_of (n := 0) rfl (Nat.le_of_ble_eq_true rfl) hg ?_
  intro p e s m below meth c C htab hin
  refine zx_lv [0] [(0, .ref (a0))] rfl ?_
  refine zx_aload_n C dX5_init_0 0 rfl ?_
  refine zx_obj C W_1_92 W_1_26 W_1_27 (by decide) (by decide) (Nat.le_of_ble_eq_true rfl) dX5_init_1 ?_
  refine zx_aload_n C dX5_init_4 0 rfl ?_
  refine zx_ldc (v := 65536) C W_1_93 dX5_init_5 ?_
  refine zx_newJ C W_1_155 (by decide) (by decide) dX5_init_7 ?_
  refine zx_mem (fun ρ1 hρ1 => ?_)
  replace hm := ltb_e hm hρ1
  have k2 : tk ρ1 (b0 + tn σ) = .inr (3, ((65536 : Int32)).toNatClampNeg) := by rw [hρ1]; exact sN_k _ _ _ _
  have i3 : tIn b0 ρ1 (b0 + tn σ) := by rw [hρ1]; exact sN_i _ _ _ _
  obtain ⟨k4, i5, hm⟩ := ckO_e hm
  refine zx_putF (j := 0) (ρ := sA (ρ1) (a0) 0 (some (b0 + tn σ))) C hin tC_5 k4 i5 (by decide) W_1_94 rfl rfl rfl rfl (sA_ok (fun _ => rfl)) dX5_init_9 ?_
  refine zx_aload_n C dX5_init_12 0 rfl ?_
  refine zx_sipush (v := 2034) C dX5_init_13 (by decide) ?_
  refine zx_newI C W_1_85 (by decide) (by decide) dX5_init_16 ?_
  refine zx_mem (fun ρ6 hρ6 => ?_)
  replace hm := ltb_e hm hρ6
  have k7 : tk ρ6 (b0 + tn ρ1) = .inr (0, ((2034 : Int32)).toNatClampNeg) := by rw [hρ6]; exact sN_k _ _ _ _
  have i8 : tIn b0 ρ6 (b0 + tn ρ1) := by rw [hρ6]; exact sN_i _ _ _ _
  obtain ⟨k9, i10, hm⟩ := ckO_e hm
  refine zx_putF (j := 1) (ρ := sA (ρ6) (a0) 1 (some (b0 + tn ρ1))) C hin tC_5 k9 i10 (by decide) W_1_97 rfl rfl rfl rfl (sA_ok (fun _ => rfl)) dX5_init_18 ?_
  refine zx_aload_n C dX5_init_21 0 rfl ?_
  refine zx_sipush (v := 2034) C dX5_init_22 (by decide) ?_
  refine zx_newI C W_1_85 (by decide) (by decide) dX5_init_25 ?_
  refine zx_mem (fun ρ11 hρ11 => ?_)
  replace hm := ltb_e hm hρ11
  have k12 : tk ρ11 (b0 + tn ρ6) = .inr (0, ((2034 : Int32)).toNatClampNeg) := by rw [hρ11]; exact sN_k _ _ _ _
  have i13 : tIn b0 ρ11 (b0 + tn ρ6) := by rw [hρ11]; exact sN_i _ _ _ _
  obtain ⟨k14, i15, hm⟩ := ckO_e hm
  refine zx_putF (j := 2) (ρ := sA (ρ11) (a0) 2 (some (b0 + tn ρ6))) C hin tC_5 k14 i15 (by decide) W_1_98 rfl rfl rfl rfl (sA_ok (fun _ => rfl)) dX5_init_27 ?_
  refine zx_aload_n C dX5_init_30 0 rfl ?_
  refine zx_sipush (v := 2034) C dX5_init_31 (by decide) ?_
  refine zx_newB C W_1_156 (by decide) (by decide) dX5_init_34 ?_
  refine zx_mem (fun ρ16 hρ16 => ?_)
  replace hm := ltb_e hm hρ16
  have k17 : tk ρ16 (b0 + tn ρ11) = .inr (1, ((2034 : Int32)).toNatClampNeg) := by rw [hρ16]; exact sN_k _ _ _ _
  have i18 : tIn b0 ρ16 (b0 + tn ρ11) := by rw [hρ16]; exact sN_i _ _ _ _
  obtain ⟨k19, i20, hm⟩ := ckO_e hm
  refine zx_putF (j := 3) (ρ := sA (ρ16) (a0) 3 (some (b0 + tn ρ11))) C hin tC_5 k19 i20 (by decide) W_1_99 rfl rfl rfl rfl (sA_ok (fun _ => rfl)) dX5_init_36 ?_
  refine zx_aload_n C dX5_init_39 0 rfl ?_
  refine zx_sipush (v := 2034) C dX5_init_40 (by decide) ?_
  refine zx_newB C W_1_156 (by decide) (by decide) dX5_init_43 ?_
  refine zx_mem (fun ρ21 hρ21 => ?_)
  replace hm := ltb_e hm hρ21
  have k22 : tk ρ21 (b0 + tn ρ16) = .inr (1, ((2034 : Int32)).toNatClampNeg) := by rw [hρ21]; exact sN_k _ _ _ _
  have i23 : tIn b0 ρ21 (b0 + tn ρ16) := by rw [hρ21]; exact sN_i _ _ _ _
  obtain ⟨k24, i25, hm⟩ := ckO_e hm
  refine zx_putF (j := 4) (ρ := sA (ρ21) (a0) 4 (some (b0 + tn ρ16))) C hin tC_5 k24 i25 (by decide) W_1_100 rfl rfl rfl rfl (sA_ok (fun _ => rfl)) dX5_init_45 ?_
  refine zx_aload_n C dX5_init_48 0 rfl ?_
  refine zx_sipush (v := 2034) C dX5_init_49 (by decide) ?_
  refine zx_newB C W_1_156 (by decide) (by decide) dX5_init_52 ?_
  refine zx_mem (fun ρ26 hρ26 => ?_)
  replace hm := ltb_e hm hρ26
  have k27 : tk ρ26 (b0 + tn ρ21) = .inr (1, ((2034 : Int32)).toNatClampNeg) := by rw [hρ26]; exact sN_k _ _ _ _
  have i28 : tIn b0 ρ26 (b0 + tn ρ21) := by rw [hρ26]; exact sN_i _ _ _ _
  obtain ⟨k29, i30, hm⟩ := ckO_e hm
  refine zx_putF (j := 5) (ρ := sA (ρ26) (a0) 5 (some (b0 + tn ρ21))) C hin tC_5 k29 i30 (by decide) W_1_101 rfl rfl rfl rfl (sA_ok (fun _ => rfl)) dX5_init_54 ?_
  refine zx_aload_n C dX5_init_57 0 rfl ?_
  refine zx_sipush (v := 2034) C dX5_init_58 (by decide) ?_
  refine zx_newB C W_1_156 (by decide) (by decide) dX5_init_61 ?_
  refine zx_mem (fun ρ31 hρ31 => ?_)
  replace hm := ltb_e hm hρ31
  have k32 : tk ρ31 (b0 + tn ρ26) = .inr (1, ((2034 : Int32)).toNatClampNeg) := by rw [hρ31]; exact sN_k _ _ _ _
  have i33 : tIn b0 ρ31 (b0 + tn ρ26) := by rw [hρ31]; exact sN_i _ _ _ _
  obtain ⟨k34, i35, hm⟩ := ckO_e hm
  refine zx_putF (j := 6) (ρ := sA (ρ31) (a0) 6 (some (b0 + tn ρ26))) C hin tC_5 k34 i35 (by decide) W_1_102 rfl rfl rfl rfl (sA_ok (fun _ => rfl)) dX5_init_63 ?_
  obtain ⟨rfl, rfl⟩ := ret_e hm
  exact zx_vret C rfl rfl rfl dX5_init_66
abbrev cX5_emptyGroup : ByteArray := prog_7_method_4_code
def yX5_emptyGroup : MethodName := ⟨"SyncTree$Space", "emptyGroup", "(I)V"⟩
theorem Y_X5_emptyGroup : tY yX5_emptyGroup cX5_emptyGroup 3 none 1 := ⟨W_2_126, W_1_3, ⟨by decide +kernel, by decide +kernel⟩, by decide +kernel⟩
theorem dX5_emptyGroup_0 : decode cX5_emptyGroup 0 = .ok (.iconst 0, 1) := by decide +kernel
theorem dX5_emptyGroup_1 : decode cX5_emptyGroup 1 = .ok (.istore_n 2, 1) := by decide +kernel
theorem dX5_emptyGroup_2 : decode cX5_emptyGroup 2 = .ok (.iload_n 2, 1) := by decide +kernel
theorem dX5_emptyGroup_3 : decode cX5_emptyGroup 3 = .ok (.aload_n 0, 1) := by decide +kernel
theorem dX5_emptyGroup_4 : decode cX5_emptyGroup 4 = .ok (.getfield 48, 3) := by decide +kernel
theorem dX5_emptyGroup_7 : decode cX5_emptyGroup 7 = .ok (.if_icmp .ge 65, 3) := by decide +kernel
theorem dX5_emptyGroup_10 : decode cX5_emptyGroup 10 = .ok (.aload_n 0, 1) := by decide +kernel
theorem dX5_emptyGroup_11 : decode cX5_emptyGroup 11 = .ok (.getfield 78, 3) := by decide +kernel
theorem dX5_emptyGroup_14 : decode cX5_emptyGroup 14 = .ok (.aload_n 0, 1) := by decide +kernel
theorem dX5_emptyGroup_15 : decode cX5_emptyGroup 15 = .ok (.getfield 81, 3) := by decide +kernel
theorem dX5_emptyGroup_18 : decode cX5_emptyGroup 18 = .ok (.iadd, 1) := by decide +kernel
theorem dX5_emptyGroup_19 : decode cX5_emptyGroup 19 = .ok (.ifCond .le 53, 3) := by decide +kernel
theorem dX5_emptyGroup_22 : decode cX5_emptyGroup 22 = .ok (.aload_n 0, 1) := by decide +kernel
theorem dX5_emptyGroup_23 : decode cX5_emptyGroup 23 = .ok (.dup, 1) := by decide +kernel
theorem dX5_emptyGroup_24 : decode cX5_emptyGroup 24 = .ok (.getfield 78, 3) := by decide +kernel
theorem dX5_emptyGroup_27 : decode cX5_emptyGroup 27 = .ok (.aload_n 0, 1) := by decide +kernel
theorem dX5_emptyGroup_28 : decode cX5_emptyGroup 28 = .ok (.getfield 27, 3) := by decide +kernel
theorem dX5_emptyGroup_31 : decode cX5_emptyGroup 31 = .ok (.iload_n 2, 1) := by decide +kernel
theorem dX5_emptyGroup_32 : decode cX5_emptyGroup 32 = .ok (.baload, 1) := by decide +kernel
theorem dX5_emptyGroup_33 : decode cX5_emptyGroup 33 = .ok (.isub, 1) := by decide +kernel
theorem dX5_emptyGroup_34 : decode cX5_emptyGroup 34 = .ok (.putfield 78, 3) := by decide +kernel
theorem dX5_emptyGroup_37 : decode cX5_emptyGroup 37 = .ok (.aload_n 0, 1) := by decide +kernel
theorem dX5_emptyGroup_38 : decode cX5_emptyGroup 38 = .ok (.dup, 1) := by decide +kernel
theorem dX5_emptyGroup_39 : decode cX5_emptyGroup 39 = .ok (.getfield 81, 3) := by decide +kernel
theorem dX5_emptyGroup_42 : decode cX5_emptyGroup 42 = .ok (.aload_n 0, 1) := by decide +kernel
theorem dX5_emptyGroup_43 : decode cX5_emptyGroup 43 = .ok (.getfield 30, 3) := by decide +kernel
theorem dX5_emptyGroup_46 : decode cX5_emptyGroup 46 = .ok (.iload_n 2, 1) := by decide +kernel
theorem dX5_emptyGroup_47 : decode cX5_emptyGroup 47 = .ok (.baload, 1) := by decide +kernel
theorem dX5_emptyGroup_48 : decode cX5_emptyGroup 48 = .ok (.isub, 1) := by decide +kernel
theorem dX5_emptyGroup_49 : decode cX5_emptyGroup 49 = .ok (.putfield 81, 3) := by decide +kernel
theorem dX5_emptyGroup_52 : decode cX5_emptyGroup 52 = .ok (.aload_n 0, 1) := by decide +kernel
theorem dX5_emptyGroup_53 : decode cX5_emptyGroup 53 = .ok (.getfield 27, 3) := by decide +kernel
theorem dX5_emptyGroup_56 : decode cX5_emptyGroup 56 = .ok (.iload_n 2, 1) := by decide +kernel
theorem dX5_emptyGroup_57 : decode cX5_emptyGroup 57 = .ok (.iconst 0, 1) := by decide +kernel
theorem dX5_emptyGroup_58 : decode cX5_emptyGroup 58 = .ok (.bastore, 1) := by decide +kernel
theorem dX5_emptyGroup_59 : decode cX5_emptyGroup 59 = .ok (.aload_n 0, 1) := by decide +kernel
theorem dX5_emptyGroup_60 : decode cX5_emptyGroup 60 = .ok (.getfield 30, 3) := by decide +kernel
theorem dX5_emptyGroup_63 : decode cX5_emptyGroup 63 = .ok (.iload_n 2, 1) := by decide +kernel
theorem dX5_emptyGroup_64 : decode cX5_emptyGroup 64 = .ok (.iconst 0, 1) := by decide +kernel
theorem dX5_emptyGroup_65 : decode cX5_emptyGroup 65 = .ok (.bastore, 1) := by decide +kernel
theorem dX5_emptyGroup_66 : decode cX5_emptyGroup 66 = .ok (.iinc 2 1, 3) := by decide +kernel
theorem dX5_emptyGroup_69 : decode cX5_emptyGroup 69 = .ok (.goto (-67), 3) := by decide +kernel
theorem dX5_emptyGroup_72 : decode cX5_emptyGroup 72 = .ok (.aload_n 0, 1) := by decide +kernel
theorem dX5_emptyGroup_73 : decode cX5_emptyGroup 73 = .ok (.iload_n 1, 1) := by decide +kernel
theorem dX5_emptyGroup_74 : decode cX5_emptyGroup 74 = .ok (.putfield 72, 3) := by decide +kernel
theorem dX5_emptyGroup_77 : decode cX5_emptyGroup 77 = .ok (.return_, 1) := by decide +kernel
set_option maxRecDepth 100000 in
set_option maxHeartbeats 1000000 in
theorem j_X5_emptyGroup_72 {p : Program} {l : Launch} {e : Env} {s : State} {m : MethodId} {args : Array Value} {below : List Frame} {meth : Method} {c : Code} {D : va_G} {aC : Nat → ClassId} {b0 fu : Nat} {σ0 τ : tM} {v : Unit}  (C : tCx p l s m args meth c yX5_emptyGroup.cls cX5_emptyGroup 3 none D aC b0 σ0) (htab : ∀ x ∈ c.exceptionTable.toList, False) (hin : meth.name = yX5_emptyGroup.name)  {x0 : Nat} {x1 : Int32} {σ : tM} (hm : J_X5_emptyGroup_72 b0 fu  x0 x1 σ = some (v, τ)) : tX p l e s m args below meth c 3 0 0 D aC b0 σ0 (.inl none) τ 72 [(0, .ref (x0)), (1, .int (x1))] [] σ := by
  unfold J_X5_emptyGroup_72 at hm
  refine zx_aload_n C dX5_emptyGroup_72 0 rfl ?_
  refine zx_iload_n C dX5_emptyGroup_73 1 rfl ?_
  obtain ⟨k4, i5, hm⟩ := ckO_e hm
  refine zx_put (j := 16) (ρ := sI (σ) (x0) 16 (x1)) C tC_5 k4 i5 ⟨by decide, Or.inl W_1_119⟩ rfl rfl rfl (sI_ok (fun _ => rfl)) dX5_emptyGroup_74 ?_
  obtain ⟨rfl, rfl⟩ := ret_e hm
  exact zx_vret C rfl rfl rfl dX5_emptyGroup_77
set_option maxRecDepth 100000 in
set_option maxHeartbeats 1000000 in
theorem l_X5_emptyGroup_2 {p : Program} {l : Launch} {e : Env} {s : State} {m : MethodId} {args : Array Value} {below : List Frame} {meth : Method} {c : Code} {D : va_G} {aC : Nat → ClassId} {b0 fu : Nat} {σ0 τ : tM} {v : Unit}  (C : tCx p l s m args meth c yX5_emptyGroup.cls cX5_emptyGroup 3 none D aC b0 σ0) (htab : ∀ x ∈ c.exceptionTable.toList, False) (hin : meth.name = yX5_emptyGroup.name)  : ∀ (n : Nat) (x0 : Nat) (x1 : Int32) (x2 : Int32) (σ : tM), L_X5_emptyGroup_2 b0 fu  n x0 x1 x2 σ = some (v, τ) → tX p l e s m args below meth c 3 0 0 D aC b0 σ0 (.inl none) τ 2 [(0, .ref (x0)), (1, .int (x1)), (2, .int (x2))] [] σ := by
  intro n
  induction n with
  | zero => intro x0 x1 x2 σ hm; unfold L_X5_emptyGroup_2 at hm; cases hm
  | succ n ih =>
    intro x0 x1 x2 σ hm
    unfold L_X5_emptyGroup_2 at hm
    obtain ⟨rc2, hrc⟩ : ∃ z, z = L_X5_emptyGroup_2 b0 fu  n := ⟨_, rfl⟩
    replace hm := ltb_e hm hrc
    rw [← hrc] at ih
    have hrc2 := ih
    clear ih hrc
    refine zx_iload_n C dX5_emptyGroup_2 2 rfl ?_
    refine zx_aload_n C dX5_emptyGroup_3 0 rfl ?_
    obtain ⟨k1, i2, hm⟩ := ckO_e hm
    refine zx_get (j := 7) C tC_5 k1 i2 ⟨by decide, Or.inl W_1_104⟩ dX5_emptyGroup_4 (.int (tI (σ) (x0) 7)) rfl ?_
    refine zx_icmp_ge C 72 dX5_emptyGroup_7 (by decide) (fun c3 => ?_) (fun c3 => ?_)
    · replace hm := ip_e hm c3
      exact zx_lv [0, 1] [(0, .ref (x0)), (1, .int (x1))] rfl (j_X5_emptyGroup_72 C htab hin    hm)
    · replace hm := in_e hm c3
      refine zx_aload_n C dX5_emptyGroup_10 0 rfl ?_
      refine zx_get (j := 11) C tC_5 k1 i2 ⟨by decide, Or.inl W_1_111⟩ dX5_emptyGroup_11 (.int (tI (σ) (x0) 11)) rfl ?_
      refine zx_aload_n C dX5_emptyGroup_14 0 rfl ?_
      refine zx_get (j := 12) C tC_5 k1 i2 ⟨by decide, Or.inl W_1_113⟩ dX5_emptyGroup_15 (.int (tI (σ) (x0) 12)) rfl ?_
      refine zx_iadd C dX5_emptyGroup_18 ?_
      refine zx_if_le C 72 dX5_emptyGroup_19 (by decide) (fun c6 => ?_) (fun c6 => ?_)
      · replace hm := ip_e hm c6
        exact zx_lv [0, 1] [(0, .ref (x0)), (1, .int (x1))] rfl (j_X5_emptyGroup_72 C htab hin    hm)
      · replace hm := in_e hm c6
        refine zx_aload_n C dX5_emptyGroup_22 0 rfl ?_
        refine zx_dup C dX5_emptyGroup_23 rfl ?_
        refine zx_get (j := 11) C tC_5 k1 i2 ⟨by decide, Or.inl W_1_111⟩ dX5_emptyGroup_24 (.int (tI (σ) (x0) 11)) rfl ?_
        refine zx_aload_n C dX5_emptyGroup_27 0 rfl ?_
        obtain ⟨a7, h8, hm⟩ := osm_e hm
        refine zx_get (j := 4) C tC_5 k1 i2 ⟨by decide, Or.inl W_1_100⟩ dX5_emptyGroup_28 (.ref a7) (rf_s h8) ?_
        refine zx_iload_n C dX5_emptyGroup_31 2 rfl ?_
        obtain ⟨n11, k9, i10, hm⟩ := ckR_e hm
        obtain ⟨h12, hm⟩ := ckI_e hm
        refine zx_bald C k9 i10 h12 dX5_emptyGroup_32 ?_
        refine zx_isub C dX5_emptyGroup_33 ?_
        refine zx_put (j := 11) (ρ := sI (σ) (x0) 11 ((tI (σ) (x0) 11) - (tI (σ) (a7) ((x2).toNatClampNeg)))) C tC_5 k1 i2 ⟨by decide, Or.inl W_1_111⟩ rfl rfl rfl (sI_ok (fun _ => rfl)) dX5_emptyGroup_34 ?_
        refine zx_aload_n C dX5_emptyGroup_37 0 rfl ?_
        refine zx_dup C dX5_emptyGroup_38 rfl ?_
        refine zx_get (j := 12) C tC_5 k1 i2 ⟨by decide, Or.inl W_1_113⟩ dX5_emptyGroup_39 (.int (tI (sI (σ) (x0) 11 ((tI (σ) (x0) 11) - (tI (σ) (a7) ((x2).toNatClampNeg)))) (x0) 12)) rfl ?_
        refine zx_aload_n C dX5_emptyGroup_42 0 rfl ?_
        obtain ⟨a13, h14, hm⟩ := osm_e hm
        refine zx_get (j := 5) C tC_5 k1 i2 ⟨by decide, Or.inl W_1_101⟩ dX5_emptyGroup_43 (.ref a13) (rf_s h14) ?_
        refine zx_iload_n C dX5_emptyGroup_46 2 rfl ?_
        obtain ⟨n17, k15, i16, hm⟩ := ckR_e hm
        obtain ⟨h18, hm⟩ := ckI_e hm
        refine zx_bald C k15 i16 h18 dX5_emptyGroup_47 ?_
        refine zx_isub C dX5_emptyGroup_48 ?_
        refine zx_put (j := 12) (ρ := sI (sI (σ) (x0) 11 ((tI (σ) (x0) 11) - (tI (σ) (a7) ((x2).toNatClampNeg)))) (x0) 12 ((tI (sI (σ) (x0) 11 ((tI (σ) (x0) 11) - (tI (σ) (a7) ((x2).toNatClampNeg)))) (x0) 12) - (tI (sI (σ) (x0) 11 ((tI (σ) (x0) 11) - (tI (σ) (a7) ((x2).toNatClampNeg)))) (a13) ((x2).toNatClampNeg)))) C tC_5 k1 i2 ⟨by decide, Or.inl W_1_113⟩ rfl rfl rfl (sI_ok (fun _ => rfl)) dX5_emptyGroup_49 ?_
        refine zx_mem (fun ρ19 hρ19 => ?_)
        replace hm := ltb_e hm hρ19
        have k20 : tk ρ19 (x0) = .inl 5 := by rw [hρ19]; exact k1
        have i21 : tIn b0 ρ19 (x0) := by rw [hρ19]; exact i2
        have k22 : tk ρ19 (a7) = .inr (1, n11) := by rw [hρ19]; exact k9
        have i23 : tIn b0 ρ19 (a7) := by rw [hρ19]; exact i10
        have k24 : tk ρ19 (a13) = .inr (1, n17) := by rw [hρ19]; exact k15
        have i25 : tIn b0 ρ19 (a13) := by rw [hρ19]; exact i16
        refine zx_aload_n C dX5_emptyGroup_52 0 rfl ?_
        obtain ⟨a26, h27, hm⟩ := osm_e hm
        refine zx_get (j := 4) C tC_5 k20 i21 ⟨by decide, Or.inl W_1_100⟩ dX5_emptyGroup_53 (.ref a26) (rf_s h27) ?_
        refine zx_iload_n C dX5_emptyGroup_56 2 rfl ?_
        refine zx_iconst (v := 0) C dX5_emptyGroup_57 (by decide) ?_
        obtain ⟨n30, k28, i29, hm⟩ := ckR_e hm
        obtain ⟨h31, hm⟩ := ckI_e hm
        refine zx_bast C k28 i29 h31 dX5_emptyGroup_58 ?_
        refine zx_aload_n C dX5_emptyGroup_59 0 rfl ?_
        obtain ⟨a32, h33, hm⟩ := osm_e hm
        refine zx_get (j := 5) C tC_5 k20 i21 ⟨by decide, Or.inl W_1_101⟩ dX5_emptyGroup_60 (.ref a32) (rf_s h33) ?_
        refine zx_iload_n C dX5_emptyGroup_63 2 rfl ?_
        refine zx_iconst (v := 0) C dX5_emptyGroup_64 (by decide) ?_
        obtain ⟨n36, k34, i35, hm⟩ := ckR_e hm
        obtain ⟨h37, hm⟩ := ckI_e hm
        refine zx_bast C k34 i35 h37 dX5_emptyGroup_65 ?_
        obtain ⟨y38, hy38⟩ : ∃ z : Int32, z = (x2) + Int32.ofInt 1 := ⟨_, rfl⟩
        replace hm := ltb_e hm hy38
        refine zx_iinc C [(2, .int (y38)), (0, .ref (x0)), (1, .int (x1))] dX5_emptyGroup_66 2 rfl hy38.symm (by decide) rfl ?_
        refine zx_goto C 2 dX5_emptyGroup_69 (by decide) ?_
        exact zx_lv [1, 2, 0] [(0, .ref (x0)), (1, .int (x1)), (2, .int (y38))] rfl (hrc2 _ _ _ _ hm)
set_option maxRecDepth 100000 in
set_option maxHeartbeats 1000000 in
theorem c_X5_emptyGroup {l : Launch} {D : va_G} {aC : Nat → ClassId} {b0 fu : Nat} {a0 : Nat} {p0 : Int32} {σ τ : tM} {v : Unit} (hm : m_X5_emptyGroup b0 fu a0 p0 σ = some (v, τ)) : tMt l D aC b0 yX5_emptyGroup (Cond.code yX5_emptyGroup cX5_emptyGroup 3 none) 0 0 [.ref (a0), .int (p0)] σ (.inl none) τ := by
  unfold m_X5_emptyGroup at hm
  obtain ⟨hg, hm⟩ := grw_e hm
  refine tMt_of (n := 0) rfl (Nat.le_of_ble_eq_true rfl) hg ?_
  intro p e s m below meth c C htab hin
  refine zx_lv [0, 1] [(0, .ref (a0)), (1, .int (p0))] rfl ?_
  refine zx_iconst (v := 0) C dX5_emptyGroup_0 (by decide) ?_
  refine zx_istore_n C [(2, .int (0)), (0, .ref (a0)), (1, .int (p0))] dX5_emptyGroup_1 rfl (by decide) rfl ?_
  exact zx_lv [1, 2, 0] [(0, .ref (a0)), (1, .int (p0)), (2, .int (0))] rfl (l_X5_emptyGroup_2 C htab hin  _ _ _ _ _ hm)
abbrev cX5_numberOf : ByteArray := prog_7_method_6_code
def yX5_numberOf : MethodName := ⟨"SyncTree$Space", "numberOf", "(I)I"⟩
theorem Y_X5_numberOf : tY yX5_numberOf cX5_numberOf 2 (some .int) 1 := ⟨W_4_8, W_1_3, ⟨by decide +kernel, by decide +kernel⟩, by decide +kernel⟩
theorem dX5_numberOf_0 : decode cX5_numberOf 0 = .ok (.iload_n 1, 1) := by decide +kernel
theorem dX5_numberOf_1 : decode cX5_numberOf 1 = .ok (.bipush 34, 2) := by decide +kernel
theorem dX5_numberOf_3 : decode cX5_numberOf 3 = .ok (.if_icmp .ge 7, 3) := by decide +kernel
theorem dX5_numberOf_6 : decode cX5_numberOf 6 = .ok (.iload_n 1, 1) := by decide +kernel
theorem dX5_numberOf_7 : decode cX5_numberOf 7 = .ok (.goto 9, 3) := by decide +kernel
theorem dX5_numberOf_10 : decode cX5_numberOf 10 = .ok (.iload_n 1, 1) := by decide +kernel
theorem dX5_numberOf_11 : decode cX5_numberOf 11 = .ok (.aload_n 0, 1) := by decide +kernel
theorem dX5_numberOf_12 : decode cX5_numberOf 12 = .ok (.getfield 52, 3) := by decide +kernel
theorem dX5_numberOf_15 : decode cX5_numberOf 15 = .ok (.iadd, 1) := by decide +kernel
theorem dX5_numberOf_16 : decode cX5_numberOf 16 = .ok (.ireturn, 1) := by decide +kernel
set_option maxRecDepth 100000 in
set_option maxHeartbeats 1000000 in
theorem j_X5_numberOf_16 {p : Program} {l : Launch} {e : Env} {s : State} {m : MethodId} {args : Array Value} {below : List Frame} {meth : Method} {c : Code} {D : va_G} {aC : Nat → ClassId} {b0 fu : Nat} {σ0 τ : tM} {v : Int32}  (C : tCx p l s m args meth c yX5_numberOf.cls cX5_numberOf 2 (some .int) D aC b0 σ0) (htab : ∀ x ∈ c.exceptionTable.toList, False) (hin : meth.name = yX5_numberOf.name)  {s0 : Int32} {σ : tM} (hm : J_X5_numberOf_16 b0 fu  s0 σ = some (v, τ)) : tX p l e s m args below meth c 2 0 0 D aC b0 σ0 (.inl (some (.int v))) τ 16 [] [.int (s0)] σ := by
  unfold J_X5_numberOf_16 at hm
  obtain ⟨rfl, rfl⟩ := ret_e hm
  exact zx_iret C rfl rfl rfl dX5_numberOf_16
set_option maxRecDepth 100000 in
set_option maxHeartbeats 1000000 in
theorem c_X5_numberOf {l : Launch} {D : va_G} {aC : Nat → ClassId} {b0 fu : Nat} {a0 : Nat} {p0 : Int32} {σ τ : tM} {v : Int32} (hm : m_X5_numberOf b0 fu a0 p0 σ = some (v, τ)) : tMt l D aC b0 yX5_numberOf (Cond.code yX5_numberOf cX5_numberOf 2 (some .int)) 0 0 [.ref (a0), .int (p0)] σ (.inl (some (.int v))) τ := by
  unfold m_X5_numberOf at hm
  obtain ⟨hg, hm⟩ := grw_e hm
  refine tMt_of (n := 0) rfl (Nat.le_of_ble_eq_true rfl) hg ?_
  intro p e s m below meth c C htab hin
  refine zx_lv [0, 1] [(0, .ref (a0)), (1, .int (p0))] rfl ?_
  refine zx_iload_n C dX5_numberOf_0 1 rfl ?_
  refine zx_bipush (v := 34) C dX5_numberOf_1 (by decide) ?_
  refine zx_icmp_ge C 10 dX5_numberOf_3 (by decide) (fun c1 => ?_) (fun c1 => ?_)
  · replace hm := ip_e hm c1
    refine zx_iload_n C dX5_numberOf_10 1 rfl ?_
    refine zx_aload_n C dX5_numberOf_11 0 rfl ?_
    obtain ⟨k2, i3, hm⟩ := ckO_e hm
    refine zx_get (j := 8) C tC_5 k2 i3 ⟨by decide, Or.inl W_1_106⟩ dX5_numberOf_12 (.int (tI (σ) (a0) 8)) rfl ?_
    refine zx_iadd C dX5_numberOf_15 ?_
    exact zx_lv [] [] rfl (j_X5_numberOf_16 C htab hin    hm)
  · replace hm := in_e hm c1
    refine zx_iload_n C dX5_numberOf_6 1 rfl ?_
    refine zx_goto C 16 dX5_numberOf_7 (by decide) ?_
    exact zx_lv [] [] rfl (j_X5_numberOf_16 C htab hin    hm)
abbrev cX5_birthOf : ByteArray := prog_7_method_7_code
def yX5_birthOf : MethodName := ⟨"SyncTree$Space", "birthOf", "(I)I"⟩
theorem Y_X5_birthOf : tY yX5_birthOf cX5_birthOf 2 (some .int) 1 := ⟨W_6_51, W_1_3, ⟨by decide +kernel, by decide +kernel⟩, by decide +kernel⟩
theorem dX5_birthOf_0 : decode cX5_birthOf 0 = .ok (.iload_n 1, 1) := by decide +kernel
theorem dX5_birthOf_1 : decode cX5_birthOf 1 = .ok (.ifCond .lt 11, 3) := by decide +kernel
theorem dX5_birthOf_4 : decode cX5_birthOf 4 = .ok (.iload_n 1, 1) := by decide +kernel
theorem dX5_birthOf_5 : decode cX5_birthOf 5 = .ok (.aload_n 0, 1) := by decide +kernel
theorem dX5_birthOf_6 : decode cX5_birthOf 6 = .ok (.getfield 48, 3) := by decide +kernel
theorem dX5_birthOf_9 : decode cX5_birthOf 9 = .ok (.if_icmp .lt 7, 3) := by decide +kernel
theorem dX5_birthOf_12 : decode cX5_birthOf 12 = .ok (.iconst 0, 1) := by decide +kernel
theorem dX5_birthOf_13 : decode cX5_birthOf 13 = .ok (.goto 9, 3) := by decide +kernel
theorem dX5_birthOf_16 : decode cX5_birthOf 16 = .ok (.aload_n 0, 1) := by decide +kernel
theorem dX5_birthOf_17 : decode cX5_birthOf 17 = .ok (.getfield 20, 3) := by decide +kernel
theorem dX5_birthOf_20 : decode cX5_birthOf 20 = .ok (.iload_n 1, 1) := by decide +kernel
theorem dX5_birthOf_21 : decode cX5_birthOf 21 = .ok (.iaload, 1) := by decide +kernel
theorem dX5_birthOf_22 : decode cX5_birthOf 22 = .ok (.ireturn, 1) := by decide +kernel
set_option maxRecDepth 100000 in
set_option maxHeartbeats 1000000 in
theorem j_X5_birthOf_22 {p : Program} {l : Launch} {e : Env} {s : State} {m : MethodId} {args : Array Value} {below : List Frame} {meth : Method} {c : Code} {D : va_G} {aC : Nat → ClassId} {b0 fu : Nat} {σ0 τ : tM} {v : Int32}  (C : tCx p l s m args meth c yX5_birthOf.cls cX5_birthOf 2 (some .int) D aC b0 σ0) (htab : ∀ x ∈ c.exceptionTable.toList, False) (hin : meth.name = yX5_birthOf.name)  {s0 : Int32} {σ : tM} (hm : J_X5_birthOf_22 b0 fu  s0 σ = some (v, τ)) : tX p l e s m args below meth c 2 0 0 D aC b0 σ0 (.inl (some (.int v))) τ 22 [] [.int (s0)] σ := by
  unfold J_X5_birthOf_22 at hm
  obtain ⟨rfl, rfl⟩ := ret_e hm
  exact zx_iret C rfl rfl rfl dX5_birthOf_22
set_option maxRecDepth 100000 in
set_option maxHeartbeats 1000000 in
theorem j_X5_birthOf_12 {p : Program} {l : Launch} {e : Env} {s : State} {m : MethodId} {args : Array Value} {below : List Frame} {meth : Method} {c : Code} {D : va_G} {aC : Nat → ClassId} {b0 fu : Nat} {σ0 τ : tM} {v : Int32}  (C : tCx p l s m args meth c yX5_birthOf.cls cX5_birthOf 2 (some .int) D aC b0 σ0) (htab : ∀ x ∈ c.exceptionTable.toList, False) (hin : meth.name = yX5_birthOf.name)   {σ : tM} (hm : J_X5_birthOf_12 b0 fu   σ = some (v, τ)) : tX p l e s m args below meth c 2 0 0 D aC b0 σ0 (.inl (some (.int v))) τ 12 [] [] σ := by
  unfold J_X5_birthOf_12 at hm
  refine zx_iconst (v := 0) C dX5_birthOf_12 (by decide) ?_
  refine zx_goto C 22 dX5_birthOf_13 (by decide) ?_
  exact zx_lv [] [] rfl (j_X5_birthOf_22 C htab hin    hm)
set_option maxRecDepth 100000 in
set_option maxHeartbeats 1000000 in
theorem c_X5_birthOf {l : Launch} {D : va_G} {aC : Nat → ClassId} {b0 fu : Nat} {a0 : Nat} {p0 : Int32} {σ τ : tM} {v : Int32} (hm : m_X5_birthOf b0 fu a0 p0 σ = some (v, τ)) : tMt l D aC b0 yX5_birthOf (Cond.code yX5_birthOf cX5_birthOf 2 (some .int)) 0 0 [.ref (a0), .int (p0)] σ (.inl (some (.int v))) τ := by
  unfold m_X5_birthOf at hm
  obtain ⟨hg, hm⟩ := grw_e hm
  refine tMt_of (n := 0) rfl (Nat.le_of_ble_eq_true rfl) hg ?_
  intro p e s m below meth c C htab hin
  refine zx_lv [0, 1] [(0, .ref (a0)), (1, .int (p0))] rfl ?_
  refine zx_iload_n C dX5_birthOf_0 1 rfl ?_
  refine zx_if_lt C 12 dX5_birthOf_1 (by decide) (fun c1 => ?_) (fun c1 => ?_)
  · replace hm := ip_e hm c1
    exact zx_lv [] [] rfl (j_X5_birthOf_12 C htab hin    hm)
  · replace hm := in_e hm c1
    refine zx_iload_n C dX5_birthOf_4 1 rfl ?_
    refine zx_aload_n C dX5_birthOf_5 0 rfl ?_
    obtain ⟨k2, i3, hm⟩ := ckO_e hm
    refine zx_get (j := 7) C tC_5 k2 i3 ⟨by decide, Or.inl W_1_104⟩ dX5_birthOf_6 (.int (tI (σ) (a0) 7)) rfl ?_
    refine zx_icmp_lt C 16 dX5_birthOf_9 (by decide) (fun c4 => ?_) (fun c4 => ?_)
    · replace hm := ip_e hm c4
      refine zx_aload_n C dX5_birthOf_16 0 rfl ?_
      obtain ⟨a5, h6, hm⟩ := osm_e hm
      refine zx_get (j := 2) C tC_5 k2 i3 ⟨by decide, Or.inl W_1_98⟩ dX5_birthOf_17 (.ref a5) (rf_s h6) ?_
      refine zx_iload_n C dX5_birthOf_20 1 rfl ?_
      obtain ⟨n9, k7, i8, hm⟩ := ckR_e hm
      obtain ⟨h10, hm⟩ := ckI_e hm
      refine zx_iald C k7 i8 h10 dX5_birthOf_21 ?_
      exact zx_lv [] [] rfl (j_X5_birthOf_22 C htab hin    hm)
    · replace hm := in_e hm c4
      exact zx_lv [] [] rfl (j_X5_birthOf_12 C htab hin    hm)
abbrev cX5_ownerOf : ByteArray := prog_7_method_8_code
def yX5_ownerOf : MethodName := ⟨"SyncTree$Space", "ownerOf", "(I)I"⟩
theorem Y_X5_ownerOf : tY yX5_ownerOf cX5_ownerOf 2 (some .int) 1 := ⟨W_6_47, W_1_3, ⟨by decide +kernel, by decide +kernel⟩, by decide +kernel⟩
theorem dX5_ownerOf_0 : decode cX5_ownerOf 0 = .ok (.iload_n 1, 1) := by decide +kernel
theorem dX5_ownerOf_1 : decode cX5_ownerOf 1 = .ok (.ifCond .lt 11, 3) := by decide +kernel
theorem dX5_ownerOf_4 : decode cX5_ownerOf 4 = .ok (.iload_n 1, 1) := by decide +kernel
theorem dX5_ownerOf_5 : decode cX5_ownerOf 5 = .ok (.aload_n 0, 1) := by decide +kernel
theorem dX5_ownerOf_6 : decode cX5_ownerOf 6 = .ok (.getfield 48, 3) := by decide +kernel
theorem dX5_ownerOf_9 : decode cX5_ownerOf 9 = .ok (.if_icmp .lt 7, 3) := by decide +kernel
theorem dX5_ownerOf_12 : decode cX5_ownerOf 12 = .ok (.iconst (-1), 1) := by decide +kernel
theorem dX5_ownerOf_13 : decode cX5_ownerOf 13 = .ok (.goto 9, 3) := by decide +kernel
theorem dX5_ownerOf_16 : decode cX5_ownerOf 16 = .ok (.aload_n 0, 1) := by decide +kernel
theorem dX5_ownerOf_17 : decode cX5_ownerOf 17 = .ok (.getfield 23, 3) := by decide +kernel
theorem dX5_ownerOf_20 : decode cX5_ownerOf 20 = .ok (.iload_n 1, 1) := by decide +kernel
theorem dX5_ownerOf_21 : decode cX5_ownerOf 21 = .ok (.baload, 1) := by decide +kernel
theorem dX5_ownerOf_22 : decode cX5_ownerOf 22 = .ok (.ireturn, 1) := by decide +kernel
set_option maxRecDepth 100000 in
set_option maxHeartbeats 1000000 in
theorem j_X5_ownerOf_22 {p : Program} {l : Launch} {e : Env} {s : State} {m : MethodId} {args : Array Value} {below : List Frame} {meth : Method} {c : Code} {D : va_G} {aC : Nat → ClassId} {b0 fu : Nat} {σ0 τ : tM} {v : Int32}  (C : tCx p l s m args meth c yX5_ownerOf.cls cX5_ownerOf 2 (some .int) D aC b0 σ0) (htab : ∀ x ∈ c.exceptionTable.toList, False) (hin : meth.name = yX5_ownerOf.name)  {s0 : Int32} {σ : tM} (hm : J_X5_ownerOf_22 b0 fu  s0 σ = some (v, τ)) : tX p l e s m args below meth c 2 0 0 D aC b0 σ0 (.inl (some (.int v))) τ 22 [] [.int (s0)] σ := by
  unfold J_X5_ownerOf_22 at hm
  obtain ⟨rfl, rfl⟩ := ret_e hm
  exact zx_iret C rfl rfl rfl dX5_ownerOf_22
set_option maxRecDepth 100000 in
set_option maxHeartbeats 1000000 in
theorem j_X5_ownerOf_12 {p : Program} {l : Launch} {e : Env} {s : State} {m : MethodId} {args : Array Value} {below : List Frame} {meth : Method} {c : Code} {D : va_G} {aC : Nat → ClassId} {b0 fu : Nat} {σ0 τ : tM} {v : Int32}  (C : tCx p l s m args meth c yX5_ownerOf.cls cX5_ownerOf 2 (some .int) D aC b0 σ0) (htab : ∀ x ∈ c.exceptionTable.toList, False) (hin : meth.name = yX5_ownerOf.name)   {σ : tM} (hm : J_X5_ownerOf_12 b0 fu   σ = some (v, τ)) : tX p l e s m args below meth c 2 0 0 D aC b0 σ0 (.inl (some (.int v))) τ 12 [] [] σ := by
  unfold J_X5_ownerOf_12 at hm
  refine zx_iconst (v := (-1)) C dX5_ownerOf_12 (by decide) ?_
  refine zx_goto C 22 dX5_ownerOf_13 (by decide) ?_
  exact zx_lv [] [] rfl (j_X5_ownerOf_22 C htab hin    hm)
set_option maxRecDepth 100000 in
set_option maxHeartbeats 1000000 in
theorem c_X5_ownerOf {l : Launch} {D : va_G} {aC : Nat → ClassId} {b0 fu : Nat} {a0 : Nat} {p0 : Int32} {σ τ : tM} {v : Int32} (hm : m_X5_ownerOf b0 fu a0 p0 σ = some (v, τ)) : tMt l D aC b0 yX5_ownerOf (Cond.code yX5_ownerOf cX5_ownerOf 2 (some .int)) 0 0 [.ref (a0), .int (p0)] σ (.inl (some (.int v))) τ := by
  unfold m_X5_ownerOf at hm
  obtain ⟨hg, hm⟩ := grw_e hm
  refine tMt_of (n := 0) rfl (Nat.le_of_ble_eq_true rfl) hg ?_
  intro p e s m below meth c C htab hin
  refine zx_lv [0, 1] [(0, .ref (a0)), (1, .int (p0))] rfl ?_
  refine zx_iload_n C dX5_ownerOf_0 1 rfl ?_
  refine zx_if_lt C 12 dX5_ownerOf_1 (by decide) (fun c1 => ?_) (fun c1 => ?_)
  · replace hm := ip_e hm c1
    exact zx_lv [] [] rfl (j_X5_ownerOf_12 C htab hin    hm)
  · replace hm := in_e hm c1
    refine zx_iload_n C dX5_ownerOf_4 1 rfl ?_
    refine zx_aload_n C dX5_ownerOf_5 0 rfl ?_
    obtain ⟨k2, i3, hm⟩ := ckO_e hm
    refine zx_get (j := 7) C tC_5 k2 i3 ⟨by decide, Or.inl W_1_104⟩ dX5_ownerOf_6 (.int (tI (σ) (a0) 7)) rfl ?_
    refine zx_icmp_lt C 16 dX5_ownerOf_9 (by decide) (fun c4 => ?_) (fun c4 => ?_)
    · replace hm := ip_e hm c4
      refine zx_aload_n C dX5_ownerOf_16 0 rfl ?_
      obtain ⟨a5, h6, hm⟩ := osm_e hm
      refine zx_get (j := 3) C tC_5 k2 i3 ⟨by decide, Or.inl W_1_99⟩ dX5_ownerOf_17 (.ref a5) (rf_s h6) ?_
      refine zx_iload_n C dX5_ownerOf_20 1 rfl ?_
      obtain ⟨n9, k7, i8, hm⟩ := ckR_e hm
      obtain ⟨h10, hm⟩ := ckI_e hm
      refine zx_bald C k7 i8 h10 dX5_ownerOf_21 ?_
      exact zx_lv [] [] rfl (j_X5_ownerOf_22 C htab hin    hm)
    · replace hm := in_e hm c4
      exact zx_lv [] [] rfl (j_X5_ownerOf_12 C htab hin    hm)
abbrev cX5_isTouched : ByteArray := prog_7_method_9_code
def yX5_isTouched : MethodName := ⟨"SyncTree$Space", "isTouched", "(I)Z"⟩
theorem Y_X5_isTouched : tY yX5_isTouched cX5_isTouched 2 (some .boolean) 1 := ⟨W_4_60, W_1_3, ⟨by decide +kernel, by decide +kernel⟩, by decide +kernel⟩
theorem dX5_isTouched_0 : decode cX5_isTouched 0 = .ok (.iload_n 1, 1) := by decide +kernel
theorem dX5_isTouched_1 : decode cX5_isTouched 1 = .ok (.ifCond .le 24, 3) := by decide +kernel
theorem dX5_isTouched_4 : decode cX5_isTouched 4 = .ok (.iload_n 1, 1) := by decide +kernel
theorem dX5_isTouched_5 : decode cX5_isTouched 5 = .ok (.aload_n 0, 1) := by decide +kernel
theorem dX5_isTouched_6 : decode cX5_isTouched 6 = .ok (.getfield 48, 3) := by decide +kernel
theorem dX5_isTouched_9 : decode cX5_isTouched 9 = .ok (.if_icmp .ge 16, 3) := by decide +kernel
theorem dX5_isTouched_12 : decode cX5_isTouched 12 = .ok (.aload_n 0, 1) := by decide +kernel
theorem dX5_isTouched_13 : decode cX5_isTouched 13 = .ok (.getfield 27, 3) := by decide +kernel
theorem dX5_isTouched_16 : decode cX5_isTouched 16 = .ok (.iload_n 1, 1) := by decide +kernel
theorem dX5_isTouched_17 : decode cX5_isTouched 17 = .ok (.baload, 1) := by decide +kernel
theorem dX5_isTouched_18 : decode cX5_isTouched 18 = .ok (.ifCond .eq 7, 3) := by decide +kernel
theorem dX5_isTouched_21 : decode cX5_isTouched 21 = .ok (.iconst 1, 1) := by decide +kernel
theorem dX5_isTouched_22 : decode cX5_isTouched 22 = .ok (.goto 4, 3) := by decide +kernel
theorem dX5_isTouched_25 : decode cX5_isTouched 25 = .ok (.iconst 0, 1) := by decide +kernel
theorem dX5_isTouched_26 : decode cX5_isTouched 26 = .ok (.ireturn, 1) := by decide +kernel
set_option maxRecDepth 100000 in
set_option maxHeartbeats 1000000 in
theorem j_X5_isTouched_26 {p : Program} {l : Launch} {e : Env} {s : State} {m : MethodId} {args : Array Value} {below : List Frame} {meth : Method} {c : Code} {D : va_G} {aC : Nat → ClassId} {b0 fu : Nat} {σ0 τ : tM} {v : Int32}  (C : tCx p l s m args meth c yX5_isTouched.cls cX5_isTouched 2 (some .boolean) D aC b0 σ0) (htab : ∀ x ∈ c.exceptionTable.toList, False) (hin : meth.name = yX5_isTouched.name)  {s0 : Int32} {σ : tM} (hm : J_X5_isTouched_26 b0 fu  s0 σ = some (v, τ)) : tX p l e s m args below meth c 2 0 0 D aC b0 σ0 (.inl (some (.int v))) τ 26 [] [.int (s0)] σ := by
  unfold J_X5_isTouched_26 at hm
  obtain ⟨h2, hm⟩ := ckZ_e hm
  obtain ⟨rfl, rfl⟩ := ret_e hm
  exact zx_zret C rfl h2 rfl rfl dX5_isTouched_26
set_option maxRecDepth 100000 in
set_option maxHeartbeats 1000000 in
theorem j_X5_isTouched_25 {p : Program} {l : Launch} {e : Env} {s : State} {m : MethodId} {args : Array Value} {below : List Frame} {meth : Method} {c : Code} {D : va_G} {aC : Nat → ClassId} {b0 fu : Nat} {σ0 τ : tM} {v : Int32}  (C : tCx p l s m args meth c yX5_isTouched.cls cX5_isTouched 2 (some .boolean) D aC b0 σ0) (htab : ∀ x ∈ c.exceptionTable.toList, False) (hin : meth.name = yX5_isTouched.name)   {σ : tM} (hm : J_X5_isTouched_25 b0 fu   σ = some (v, τ)) : tX p l e s m args below meth c 2 0 0 D aC b0 σ0 (.inl (some (.int v))) τ 25 [] [] σ := by
  unfold J_X5_isTouched_25 at hm
  refine zx_iconst (v := 0) C dX5_isTouched_25 (by decide) ?_
  exact zx_lv [] [] rfl (j_X5_isTouched_26 C htab hin    hm)
set_option maxRecDepth 100000 in
set_option maxHeartbeats 1000000 in
theorem c_X5_isTouched {l : Launch} {D : va_G} {aC : Nat → ClassId} {b0 fu : Nat} {a0 : Nat} {p0 : Int32} {σ τ : tM} {v : Int32} (hm : m_X5_isTouched b0 fu a0 p0 σ = some (v, τ)) : tMt l D aC b0 yX5_isTouched (Cond.code yX5_isTouched cX5_isTouched 2 (some .boolean)) 0 0 [.ref (a0), .int (p0)] σ (.inl (some (.int v))) τ := by
  unfold m_X5_isTouched at hm
  obtain ⟨hg, hm⟩ := grw_e hm
  refine tMt_of (n := 0) rfl (Nat.le_of_ble_eq_true rfl) hg ?_
  intro p e s m below meth c C htab hin
  refine zx_lv [0, 1] [(0, .ref (a0)), (1, .int (p0))] rfl ?_
  refine zx_iload_n C dX5_isTouched_0 1 rfl ?_
  refine zx_if_le C 25 dX5_isTouched_1 (by decide) (fun c1 => ?_) (fun c1 => ?_)
  · replace hm := ip_e hm c1
    exact zx_lv [] [] rfl (j_X5_isTouched_25 C htab hin    hm)
  · replace hm := in_e hm c1
    refine zx_iload_n C dX5_isTouched_4 1 rfl ?_
    refine zx_aload_n C dX5_isTouched_5 0 rfl ?_
    obtain ⟨k3, i4, hm⟩ := ckO_e hm
    refine zx_get (j := 7) C tC_5 k3 i4 ⟨by decide, Or.inl W_1_104⟩ dX5_isTouched_6 (.int (tI (σ) (a0) 7)) rfl ?_
    refine zx_icmp_ge C 25 dX5_isTouched_9 (by decide) (fun c5 => ?_) (fun c5 => ?_)
    · replace hm := ip_e hm c5
      exact zx_lv [] [] rfl (j_X5_isTouched_25 C htab hin    hm)
    · replace hm := in_e hm c5
      refine zx_aload_n C dX5_isTouched_12 0 rfl ?_
      obtain ⟨a6, h7, hm⟩ := osm_e hm
      refine zx_get (j := 4) C tC_5 k3 i4 ⟨by decide, Or.inl W_1_100⟩ dX5_isTouched_13 (.ref a6) (rf_s h7) ?_
      refine zx_iload_n C dX5_isTouched_16 1 rfl ?_
      obtain ⟨n10, k8, i9, hm⟩ := ckR_e hm
      obtain ⟨h11, hm⟩ := ckI_e hm
      refine zx_bald C k8 i9 h11 dX5_isTouched_17 ?_
      refine zx_if_eq C 25 dX5_isTouched_18 (by decide) (fun c12 => ?_) (fun c12 => ?_)
      · replace hm := ip_e hm c12
        exact zx_lv [] [] rfl (j_X5_isTouched_25 C htab hin    hm)
      · replace hm := in_e hm c12
        refine zx_iconst (v := 1) C dX5_isTouched_21 (by decide) ?_
        refine zx_goto C 26 dX5_isTouched_22 (by decide) ?_
        exact zx_lv [] [] rfl (j_X5_isTouched_26 C htab hin    hm)
abbrev cX5_isRevoked : ByteArray := prog_7_method_10_code
def yX5_isRevoked : MethodName := ⟨"SyncTree$Space", "isRevoked", "(I)Z"⟩
theorem Y_X5_isRevoked : tY yX5_isRevoked cX5_isRevoked 2 (some .boolean) 1 := ⟨W_4_64, W_1_3, ⟨by decide +kernel, by decide +kernel⟩, by decide +kernel⟩
theorem dX5_isRevoked_0 : decode cX5_isRevoked 0 = .ok (.iload_n 1, 1) := by decide +kernel
theorem dX5_isRevoked_1 : decode cX5_isRevoked 1 = .ok (.ifCond .le 24, 3) := by decide +kernel
theorem dX5_isRevoked_4 : decode cX5_isRevoked 4 = .ok (.iload_n 1, 1) := by decide +kernel
theorem dX5_isRevoked_5 : decode cX5_isRevoked 5 = .ok (.aload_n 0, 1) := by decide +kernel
theorem dX5_isRevoked_6 : decode cX5_isRevoked 6 = .ok (.getfield 48, 3) := by decide +kernel
theorem dX5_isRevoked_9 : decode cX5_isRevoked 9 = .ok (.if_icmp .ge 16, 3) := by decide +kernel
theorem dX5_isRevoked_12 : decode cX5_isRevoked 12 = .ok (.aload_n 0, 1) := by decide +kernel
theorem dX5_isRevoked_13 : decode cX5_isRevoked 13 = .ok (.getfield 30, 3) := by decide +kernel
theorem dX5_isRevoked_16 : decode cX5_isRevoked 16 = .ok (.iload_n 1, 1) := by decide +kernel
theorem dX5_isRevoked_17 : decode cX5_isRevoked 17 = .ok (.baload, 1) := by decide +kernel
theorem dX5_isRevoked_18 : decode cX5_isRevoked 18 = .ok (.ifCond .eq 7, 3) := by decide +kernel
theorem dX5_isRevoked_21 : decode cX5_isRevoked 21 = .ok (.iconst 1, 1) := by decide +kernel
theorem dX5_isRevoked_22 : decode cX5_isRevoked 22 = .ok (.goto 4, 3) := by decide +kernel
theorem dX5_isRevoked_25 : decode cX5_isRevoked 25 = .ok (.iconst 0, 1) := by decide +kernel
theorem dX5_isRevoked_26 : decode cX5_isRevoked 26 = .ok (.ireturn, 1) := by decide +kernel
set_option maxRecDepth 100000 in
set_option maxHeartbeats 1000000 in
theorem j_X5_isRevoked_26 {p : Program} {l : Launch} {e : Env} {s : State} {m : MethodId} {args : Array Value} {below : List Frame} {meth : Method} {c : Code} {D : va_G} {aC : Nat → ClassId} {b0 fu : Nat} {σ0 τ : tM} {v : Int32}  (C : tCx p l s m args meth c yX5_isRevoked.cls cX5_isRevoked 2 (some .boolean) D aC b0 σ0) (htab : ∀ x ∈ c.exceptionTable.toList, False) (hin : meth.name = yX5_isRevoked.name)  {s0 : Int32} {σ : tM} (hm : J_X5_isRevoked_26 b0 fu  s0 σ = some (v, τ)) : tX p l e s m args below meth c 2 0 0 D aC b0 σ0 (.inl (some (.int v))) τ 26 [] [.int (s0)] σ := by
  unfold J_X5_isRevoked_26 at hm
  obtain ⟨h2, hm⟩ := ckZ_e hm
  obtain ⟨rfl, rfl⟩ := ret_e hm
  exact zx_zret C rfl h2 rfl rfl dX5_isRevoked_26
set_option maxRecDepth 100000 in
set_option maxHeartbeats 1000000 in
theorem j_X5_isRevoked_25 {p : Program} {l : Launch} {e : Env} {s : State} {m : MethodId} {args : Array Value} {below : List Frame} {meth : Method} {c : Code} {D : va_G} {aC : Nat → ClassId} {b0 fu : Nat} {σ0 τ : tM} {v : Int32}  (C : tCx p l s m args meth c yX5_isRevoked.cls cX5_isRevoked 2 (some .boolean) D aC b0 σ0) (htab : ∀ x ∈ c.exceptionTable.toList, False) (hin : meth.name = yX5_isRevoked.name)   {σ : tM} (hm : J_X5_isRevoked_25 b0 fu   σ = some (v, τ)) : tX p l e s m args below meth c 2 0 0 D aC b0 σ0 (.inl (some (.int v))) τ 25 [] [] σ := by
  unfold J_X5_isRevoked_25 at hm
  refine zx_iconst (v := 0) C dX5_isRevoked_25 (by decide) ?_
  exact zx_lv [] [] rfl (j_X5_isRevoked_26 C htab hin    hm)
set_option maxRecDepth 100000 in
set_option maxHeartbeats 1000000 in
theorem c_X5_isRevoked {l : Launch} {D : va_G} {aC : Nat → ClassId} {b0 fu : Nat} {a0 : Nat} {p0 : Int32} {σ τ : tM} {v : Int32} (hm : m_X5_isRevoked b0 fu a0 p0 σ = some (v, τ)) : tMt l D aC b0 yX5_isRevoked (Cond.code yX5_isRevoked cX5_isRevoked 2 (some .boolean)) 0 0 [.ref (a0), .int (p0)] σ (.inl (some (.int v))) τ := by
  unfold m_X5_isRevoked at hm
  obtain ⟨hg, hm⟩ := grw_e hm
  refine tMt_of (n := 0) rfl (Nat.le_of_ble_eq_true rfl) hg ?_
  intro p e s m below meth c C htab hin
  refine zx_lv [0, 1] [(0, .ref (a0)), (1, .int (p0))] rfl ?_
  refine zx_iload_n C dX5_isRevoked_0 1 rfl ?_
  refine zx_if_le C 25 dX5_isRevoked_1 (by decide) (fun c1 => ?_) (fun c1 => ?_)
  · replace hm := ip_e hm c1
    exact zx_lv [] [] rfl (j_X5_isRevoked_25 C htab hin    hm)
  · replace hm := in_e hm c1
    refine zx_iload_n C dX5_isRevoked_4 1 rfl ?_
    refine zx_aload_n C dX5_isRevoked_5 0 rfl ?_
    obtain ⟨k3, i4, hm⟩ := ckO_e hm
    refine zx_get (j := 7) C tC_5 k3 i4 ⟨by decide, Or.inl W_1_104⟩ dX5_isRevoked_6 (.int (tI (σ) (a0) 7)) rfl ?_
    refine zx_icmp_ge C 25 dX5_isRevoked_9 (by decide) (fun c5 => ?_) (fun c5 => ?_)
    · replace hm := ip_e hm c5
      exact zx_lv [] [] rfl (j_X5_isRevoked_25 C htab hin    hm)
    · replace hm := in_e hm c5
      refine zx_aload_n C dX5_isRevoked_12 0 rfl ?_
      obtain ⟨a6, h7, hm⟩ := osm_e hm
      refine zx_get (j := 5) C tC_5 k3 i4 ⟨by decide, Or.inl W_1_101⟩ dX5_isRevoked_13 (.ref a6) (rf_s h7) ?_
      refine zx_iload_n C dX5_isRevoked_16 1 rfl ?_
      obtain ⟨n10, k8, i9, hm⟩ := ckR_e hm
      obtain ⟨h11, hm⟩ := ckI_e hm
      refine zx_bald C k8 i9 h11 dX5_isRevoked_17 ?_
      refine zx_if_eq C 25 dX5_isRevoked_18 (by decide) (fun c12 => ?_) (fun c12 => ?_)
      · replace hm := ip_e hm c12
        exact zx_lv [] [] rfl (j_X5_isRevoked_25 C htab hin    hm)
      · replace hm := in_e hm c12
        refine zx_iconst (v := 1) C dX5_isRevoked_21 (by decide) ?_
        refine zx_goto C 26 dX5_isRevoked_22 (by decide) ?_
        exact zx_lv [] [] rfl (j_X5_isRevoked_26 C htab hin    hm)
abbrev cX5_isDirty : ByteArray := prog_7_method_11_code
def yX5_isDirty : MethodName := ⟨"SyncTree$Space", "isDirty", "(I)Z"⟩
theorem Y_X5_isDirty : tY yX5_isDirty cX5_isDirty 2 (some .boolean) 1 := ⟨W_6_43, W_1_3, ⟨by decide +kernel, by decide +kernel⟩, by decide +kernel⟩
theorem dX5_isDirty_0 : decode cX5_isDirty 0 = .ok (.iload_n 1, 1) := by decide +kernel
theorem dX5_isDirty_1 : decode cX5_isDirty 1 = .ok (.ifCond .le 24, 3) := by decide +kernel
theorem dX5_isDirty_4 : decode cX5_isDirty 4 = .ok (.iload_n 1, 1) := by decide +kernel
theorem dX5_isDirty_5 : decode cX5_isDirty 5 = .ok (.aload_n 0, 1) := by decide +kernel
theorem dX5_isDirty_6 : decode cX5_isDirty 6 = .ok (.getfield 48, 3) := by decide +kernel
theorem dX5_isDirty_9 : decode cX5_isDirty 9 = .ok (.if_icmp .ge 16, 3) := by decide +kernel
theorem dX5_isDirty_12 : decode cX5_isDirty 12 = .ok (.aload_n 0, 1) := by decide +kernel
theorem dX5_isDirty_13 : decode cX5_isDirty 13 = .ok (.getfield 33, 3) := by decide +kernel
theorem dX5_isDirty_16 : decode cX5_isDirty 16 = .ok (.iload_n 1, 1) := by decide +kernel
theorem dX5_isDirty_17 : decode cX5_isDirty 17 = .ok (.baload, 1) := by decide +kernel
theorem dX5_isDirty_18 : decode cX5_isDirty 18 = .ok (.ifCond .eq 7, 3) := by decide +kernel
theorem dX5_isDirty_21 : decode cX5_isDirty 21 = .ok (.iconst 1, 1) := by decide +kernel
theorem dX5_isDirty_22 : decode cX5_isDirty 22 = .ok (.goto 4, 3) := by decide +kernel
theorem dX5_isDirty_25 : decode cX5_isDirty 25 = .ok (.iconst 0, 1) := by decide +kernel
theorem dX5_isDirty_26 : decode cX5_isDirty 26 = .ok (.ireturn, 1) := by decide +kernel
set_option maxRecDepth 100000 in
set_option maxHeartbeats 1000000 in
theorem j_X5_isDirty_26 {p : Program} {l : Launch} {e : Env} {s : State} {m : MethodId} {args : Array Value} {below : List Frame} {meth : Method} {c : Code} {D : va_G} {aC : Nat → ClassId} {b0 fu : Nat} {σ0 τ : tM} {v : Int32}  (C : tCx p l s m args meth c yX5_isDirty.cls cX5_isDirty 2 (some .boolean) D aC b0 σ0) (htab : ∀ x ∈ c.exceptionTable.toList, False) (hin : meth.name = yX5_isDirty.name)  {s0 : Int32} {σ : tM} (hm : J_X5_isDirty_26 b0 fu  s0 σ = some (v, τ)) : tX p l e s m args below meth c 2 0 0 D aC b0 σ0 (.inl (some (.int v))) τ 26 [] [.int (s0)] σ := by
  unfold J_X5_isDirty_26 at hm
  obtain ⟨h2, hm⟩ := ckZ_e hm
  obtain ⟨rfl, rfl⟩ := ret_e hm
  exact zx_zret C rfl h2 rfl rfl dX5_isDirty_26
set_option maxRecDepth 100000 in
set_option maxHeartbeats 1000000 in
theorem j_X5_isDirty_25 {p : Program} {l : Launch} {e : Env} {s : State} {m : MethodId} {args : Array Value} {below : List Frame} {meth : Method} {c : Code} {D : va_G} {aC : Nat → ClassId} {b0 fu : Nat} {σ0 τ : tM} {v : Int32}  (C : tCx p l s m args meth c yX5_isDirty.cls cX5_isDirty 2 (some .boolean) D aC b0 σ0) (htab : ∀ x ∈ c.exceptionTable.toList, False) (hin : meth.name = yX5_isDirty.name)   {σ : tM} (hm : J_X5_isDirty_25 b0 fu   σ = some (v, τ)) : tX p l e s m args below meth c 2 0 0 D aC b0 σ0 (.inl (some (.int v))) τ 25 [] [] σ := by
  unfold J_X5_isDirty_25 at hm
  refine zx_iconst (v := 0) C dX5_isDirty_25 (by decide) ?_
  exact zx_lv [] [] rfl (j_X5_isDirty_26 C htab hin    hm)
set_option maxRecDepth 100000 in
set_option maxHeartbeats 1000000 in
theorem c_X5_isDirty {l : Launch} {D : va_G} {aC : Nat → ClassId} {b0 fu : Nat} {a0 : Nat} {p0 : Int32} {σ τ : tM} {v : Int32} (hm : m_X5_isDirty b0 fu a0 p0 σ = some (v, τ)) : tMt l D aC b0 yX5_isDirty (Cond.code yX5_isDirty cX5_isDirty 2 (some .boolean)) 0 0 [.ref (a0), .int (p0)] σ (.inl (some (.int v))) τ := by
  unfold m_X5_isDirty at hm
  obtain ⟨hg, hm⟩ := grw_e hm
  refine tMt_of (n := 0) rfl (Nat.le_of_ble_eq_true rfl) hg ?_
  intro p e s m below meth c C htab hin
  refine zx_lv [0, 1] [(0, .ref (a0)), (1, .int (p0))] rfl ?_
  refine zx_iload_n C dX5_isDirty_0 1 rfl ?_
  refine zx_if_le C 25 dX5_isDirty_1 (by decide) (fun c1 => ?_) (fun c1 => ?_)
  · replace hm := ip_e hm c1
    exact zx_lv [] [] rfl (j_X5_isDirty_25 C htab hin    hm)
  · replace hm := in_e hm c1
    refine zx_iload_n C dX5_isDirty_4 1 rfl ?_
    refine zx_aload_n C dX5_isDirty_5 0 rfl ?_
    obtain ⟨k3, i4, hm⟩ := ckO_e hm
    refine zx_get (j := 7) C tC_5 k3 i4 ⟨by decide, Or.inl W_1_104⟩ dX5_isDirty_6 (.int (tI (σ) (a0) 7)) rfl ?_
    refine zx_icmp_ge C 25 dX5_isDirty_9 (by decide) (fun c5 => ?_) (fun c5 => ?_)
    · replace hm := ip_e hm c5
      exact zx_lv [] [] rfl (j_X5_isDirty_25 C htab hin    hm)
    · replace hm := in_e hm c5
      refine zx_aload_n C dX5_isDirty_12 0 rfl ?_
      obtain ⟨a6, h7, hm⟩ := osm_e hm
      refine zx_get (j := 6) C tC_5 k3 i4 ⟨by decide, Or.inl W_1_102⟩ dX5_isDirty_13 (.ref a6) (rf_s h7) ?_
      refine zx_iload_n C dX5_isDirty_16 1 rfl ?_
      obtain ⟨n10, k8, i9, hm⟩ := ckR_e hm
      obtain ⟨h11, hm⟩ := ckI_e hm
      refine zx_bald C k8 i9 h11 dX5_isDirty_17 ?_
      refine zx_if_eq C 25 dX5_isDirty_18 (by decide) (fun c12 => ?_) (fun c12 => ?_)
      · replace hm := ip_e hm c12
        exact zx_lv [] [] rfl (j_X5_isDirty_25 C htab hin    hm)
      · replace hm := in_e hm c12
        refine zx_iconst (v := 1) C dX5_isDirty_21 (by decide) ?_
        refine zx_goto C 26 dX5_isDirty_22 (by decide) ?_
        exact zx_lv [] [] rfl (j_X5_isDirty_26 C htab hin    hm)
abbrev cX5_word : ByteArray := prog_7_method_12_code
def yX5_word : MethodName := ⟨"SyncTree$Space", "word", "(II)J"⟩
theorem Y_X5_word : tY yX5_word cX5_word 3 (some .long) 2 := ⟨W_2_143, W_1_3, ⟨by decide +kernel, by decide +kernel⟩, by decide +kernel⟩
theorem dX5_word_0 : decode cX5_word 0 = .ok (.iload_n 1, 1) := by decide +kernel
theorem dX5_word_1 : decode cX5_word 1 = .ok (.ifCond .lt 21, 3) := by decide +kernel
theorem dX5_word_4 : decode cX5_word 4 = .ok (.iload_n 1, 1) := by decide +kernel
theorem dX5_word_5 : decode cX5_word 5 = .ok (.aload_n 0, 1) := by decide +kernel
theorem dX5_word_6 : decode cX5_word 6 = .ok (.getfield 48, 3) := by decide +kernel
theorem dX5_word_9 : decode cX5_word 9 = .ok (.if_icmp .ge 13, 3) := by decide +kernel
theorem dX5_word_12 : decode cX5_word 12 = .ok (.iload_n 2, 1) := by decide +kernel
theorem dX5_word_13 : decode cX5_word 13 = .ok (.ifCond .lt 9, 3) := by decide +kernel
theorem dX5_word_16 : decode cX5_word 16 = .ok (.iload_n 2, 1) := by decide +kernel
theorem dX5_word_17 : decode cX5_word 17 = .ok (.bipush 32, 2) := by decide +kernel
theorem dX5_word_19 : decode cX5_word 19 = .ok (.if_icmp .lt 7, 3) := by decide +kernel
theorem dX5_word_22 : decode cX5_word 22 = .ok (.lconst 0, 1) := by decide +kernel
theorem dX5_word_23 : decode cX5_word 23 = .ok (.goto 14, 3) := by decide +kernel
theorem dX5_word_26 : decode cX5_word 26 = .ok (.aload_n 0, 1) := by decide +kernel
theorem dX5_word_27 : decode cX5_word 27 = .ok (.getfield 10, 3) := by decide +kernel
theorem dX5_word_30 : decode cX5_word 30 = .ok (.iload_n 1, 1) := by decide +kernel
theorem dX5_word_31 : decode cX5_word 31 = .ok (.bipush 32, 2) := by decide +kernel
theorem dX5_word_33 : decode cX5_word 33 = .ok (.imul, 1) := by decide +kernel
theorem dX5_word_34 : decode cX5_word 34 = .ok (.iload_n 2, 1) := by decide +kernel
theorem dX5_word_35 : decode cX5_word 35 = .ok (.iadd, 1) := by decide +kernel
theorem dX5_word_36 : decode cX5_word 36 = .ok (.laload, 1) := by decide +kernel
theorem dX5_word_37 : decode cX5_word 37 = .ok (.lreturn, 1) := by decide +kernel
set_option maxRecDepth 100000 in
set_option maxHeartbeats 1000000 in
theorem j_X5_word_37 {p : Program} {l : Launch} {e : Env} {s : State} {m : MethodId} {args : Array Value} {below : List Frame} {meth : Method} {c : Code} {D : va_G} {aC : Nat → ClassId} {b0 fu : Nat} {σ0 τ : tM} {v : Int64}  (C : tCx p l s m args meth c yX5_word.cls cX5_word 3 (some .long) D aC b0 σ0) (htab : ∀ x ∈ c.exceptionTable.toList, False) (hin : meth.name = yX5_word.name)  {s0 : Int64} {σ : tM} (hm : J_X5_word_37 b0 fu  s0 σ = some (v, τ)) : tX p l e s m args below meth c 3 0 0 D aC b0 σ0 (.inl (some (.long v))) τ 37 [] [.long (s0)] σ := by
  unfold J_X5_word_37 at hm
  obtain ⟨rfl, rfl⟩ := ret_e hm
  exact zx_lret C rfl rfl rfl dX5_word_37
set_option maxRecDepth 100000 in
set_option maxHeartbeats 1000000 in
theorem j_X5_word_22 {p : Program} {l : Launch} {e : Env} {s : State} {m : MethodId} {args : Array Value} {below : List Frame} {meth : Method} {c : Code} {D : va_G} {aC : Nat → ClassId} {b0 fu : Nat} {σ0 τ : tM} {v : Int64}  (C : tCx p l s m args meth c yX5_word.cls cX5_word 3 (some .long) D aC b0 σ0) (htab : ∀ x ∈ c.exceptionTable.toList, False) (hin : meth.name = yX5_word.name)   {σ : tM} (hm : J_X5_word_22 b0 fu   σ = some (v, τ)) : tX p l e s m args below meth c 3 0 0 D aC b0 σ0 (.inl (some (.long v))) τ 22 [] [] σ := by
  unfold J_X5_word_22 at hm
  refine zx_lconst (v := 0) C dX5_word_22 (by decide) ?_
  refine zx_goto C 37 dX5_word_23 (by decide) ?_
  exact zx_lv [] [] rfl (j_X5_word_37 C htab hin    hm)
set_option maxRecDepth 100000 in
set_option maxHeartbeats 1000000 in
theorem c_X5_word {l : Launch} {D : va_G} {aC : Nat → ClassId} {b0 fu : Nat} {a0 : Nat} {p0 : Int32} {p1 : Int32} {σ τ : tM} {v : Int64} (hm : m_X5_word b0 fu a0 p0 p1 σ = some (v, τ)) : tMt l D aC b0 yX5_word (Cond.code yX5_word cX5_word 3 (some .long)) 0 0 [.ref (a0), .int (p0), .int (p1)] σ (.inl (some (.long v))) τ := by
  unfold m_X5_word at hm
  obtain ⟨hg, hm⟩ := grw_e hm
  refine tMt_of (n := 0) rfl (Nat.le_of_ble_eq_true rfl) hg ?_
  intro p e s m below meth c C htab hin
  refine zx_lv [0, 1, 2] [(0, .ref (a0)), (1, .int (p0)), (2, .int (p1))] rfl ?_
  refine zx_iload_n C dX5_word_0 1 rfl ?_
  refine zx_if_lt C 22 dX5_word_1 (by decide) (fun c1 => ?_) (fun c1 => ?_)
  · replace hm := ip_e hm c1
    exact zx_lv [] [] rfl (j_X5_word_22 C htab hin    hm)
  · replace hm := in_e hm c1
    refine zx_iload_n C dX5_word_4 1 rfl ?_
    refine zx_aload_n C dX5_word_5 0 rfl ?_
    obtain ⟨k2, i3, hm⟩ := ckO_e hm
    refine zx_get (j := 7) C tC_5 k2 i3 ⟨by decide, Or.inl W_1_104⟩ dX5_word_6 (.int (tI (σ) (a0) 7)) rfl ?_
    refine zx_icmp_ge C 22 dX5_word_9 (by decide) (fun c4 => ?_) (fun c4 => ?_)
    · replace hm := ip_e hm c4
      exact zx_lv [] [] rfl (j_X5_word_22 C htab hin    hm)
    · replace hm := in_e hm c4
      refine zx_iload_n C dX5_word_12 2 rfl ?_
      refine zx_if_lt C 22 dX5_word_13 (by decide) (fun c5 => ?_) (fun c5 => ?_)
      · replace hm := ip_e hm c5
        exact zx_lv [] [] rfl (j_X5_word_22 C htab hin    hm)
      · replace hm := in_e hm c5
        refine zx_iload_n C dX5_word_16 2 rfl ?_
        refine zx_bipush (v := 32) C dX5_word_17 (by decide) ?_
        refine zx_icmp_lt C 26 dX5_word_19 (by decide) (fun c6 => ?_) (fun c6 => ?_)
        · replace hm := ip_e hm c6
          refine zx_aload_n C dX5_word_26 0 rfl ?_
          obtain ⟨a7, h8, hm⟩ := osm_e hm
          refine zx_get (j := 0) C tC_5 k2 i3 ⟨by decide, Or.inl W_1_94⟩ dX5_word_27 (.ref a7) (rf_s h8) ?_
          refine zx_iload_n C dX5_word_30 1 rfl ?_
          refine zx_bipush (v := 32) C dX5_word_31 (by decide) ?_
          refine zx_imul C dX5_word_33 ?_
          refine zx_iload_n C dX5_word_34 2 rfl ?_
          refine zx_iadd C dX5_word_35 ?_
          obtain ⟨n11, k9, i10, hm⟩ := ckR_e hm
          obtain ⟨h12, hm⟩ := ckI_e hm
          refine zx_lald C k9 i10 h12 dX5_word_36 ?_
          exact zx_lv [] [] rfl (j_X5_word_37 C htab hin    hm)
        · replace hm := in_e hm c6
          exact zx_lv [] [] rfl (j_X5_word_22 C htab hin    hm)
abbrev cX5_octet : ByteArray := prog_7_method_14_code
def yX5_octet : MethodName := ⟨"SyncTree$Space", "octet", "(II)I"⟩
theorem Y_X5_octet : tY yX5_octet cX5_octet 3 (some .int) 2 := ⟨W_4_123, W_1_3, ⟨by decide +kernel, by decide +kernel⟩, by decide +kernel⟩
theorem dX5_octet_0 : decode cX5_octet 0 = .ok (.iload_n 1, 1) := by decide +kernel
theorem dX5_octet_1 : decode cX5_octet 1 = .ok (.ifCond .lt 22, 3) := by decide +kernel
theorem dX5_octet_4 : decode cX5_octet 4 = .ok (.iload_n 1, 1) := by decide +kernel
theorem dX5_octet_5 : decode cX5_octet 5 = .ok (.aload_n 0, 1) := by decide +kernel
theorem dX5_octet_6 : decode cX5_octet 6 = .ok (.getfield 48, 3) := by decide +kernel
theorem dX5_octet_9 : decode cX5_octet 9 = .ok (.if_icmp .ge 14, 3) := by decide +kernel
theorem dX5_octet_12 : decode cX5_octet 12 = .ok (.iload_n 2, 1) := by decide +kernel
theorem dX5_octet_13 : decode cX5_octet 13 = .ok (.ifCond .lt 10, 3) := by decide +kernel
theorem dX5_octet_16 : decode cX5_octet 16 = .ok (.iload_n 2, 1) := by decide +kernel
theorem dX5_octet_17 : decode cX5_octet 17 = .ok (.sipush 256, 3) := by decide +kernel
theorem dX5_octet_20 : decode cX5_octet 20 = .ok (.if_icmp .lt 5, 3) := by decide +kernel
theorem dX5_octet_23 : decode cX5_octet 23 = .ok (.iconst 0, 1) := by decide +kernel
theorem dX5_octet_24 : decode cX5_octet 24 = .ok (.ireturn, 1) := by decide +kernel
theorem dX5_octet_25 : decode cX5_octet 25 = .ok (.aload_n 0, 1) := by decide +kernel
theorem dX5_octet_26 : decode cX5_octet 26 = .ok (.getfield 10, 3) := by decide +kernel
theorem dX5_octet_29 : decode cX5_octet 29 = .ok (.iload_n 1, 1) := by decide +kernel
theorem dX5_octet_30 : decode cX5_octet 30 = .ok (.bipush 32, 2) := by decide +kernel
theorem dX5_octet_32 : decode cX5_octet 32 = .ok (.imul, 1) := by decide +kernel
theorem dX5_octet_33 : decode cX5_octet 33 = .ok (.iload_n 2, 1) := by decide +kernel
theorem dX5_octet_34 : decode cX5_octet 34 = .ok (.iconst 3, 1) := by decide +kernel
theorem dX5_octet_35 : decode cX5_octet 35 = .ok (.ishr, 1) := by decide +kernel
theorem dX5_octet_36 : decode cX5_octet 36 = .ok (.iadd, 1) := by decide +kernel
theorem dX5_octet_37 : decode cX5_octet 37 = .ok (.laload, 1) := by decide +kernel
theorem dX5_octet_38 : decode cX5_octet 38 = .ok (.iload_n 2, 1) := by decide +kernel
theorem dX5_octet_39 : decode cX5_octet 39 = .ok (.bipush 7, 2) := by decide +kernel
theorem dX5_octet_41 : decode cX5_octet 41 = .ok (.iand, 1) := by decide +kernel
theorem dX5_octet_42 : decode cX5_octet 42 = .ok (.iconst 3, 1) := by decide +kernel
theorem dX5_octet_43 : decode cX5_octet 43 = .ok (.ishl, 1) := by decide +kernel
theorem dX5_octet_44 : decode cX5_octet 44 = .ok (.lushr, 1) := by decide +kernel
theorem dX5_octet_45 : decode cX5_octet 45 = .ok (.l2i, 1) := by decide +kernel
theorem dX5_octet_46 : decode cX5_octet 46 = .ok (.sipush 255, 3) := by decide +kernel
theorem dX5_octet_49 : decode cX5_octet 49 = .ok (.iand, 1) := by decide +kernel
theorem dX5_octet_50 : decode cX5_octet 50 = .ok (.ireturn, 1) := by decide +kernel
set_option maxRecDepth 100000 in
set_option maxHeartbeats 1000000 in
theorem j_X5_octet_23 {p : Program} {l : Launch} {e : Env} {s : State} {m : MethodId} {args : Array Value} {below : List Frame} {meth : Method} {c : Code} {D : va_G} {aC : Nat → ClassId} {b0 fu : Nat} {σ0 τ : tM} {v : Int32}  (C : tCx p l s m args meth c yX5_octet.cls cX5_octet 3 (some .int) D aC b0 σ0) (htab : ∀ x ∈ c.exceptionTable.toList, False) (hin : meth.name = yX5_octet.name)   {σ : tM} (hm : J_X5_octet_23 b0 fu   σ = some (v, τ)) : tX p l e s m args below meth c 3 0 0 D aC b0 σ0 (.inl (some (.int v))) τ 23 [] [] σ := by
  unfold J_X5_octet_23 at hm
  refine zx_iconst (v := 0) C dX5_octet_23 (by decide) ?_
  obtain ⟨rfl, rfl⟩ := ret_e hm
  exact zx_iret C rfl rfl rfl dX5_octet_24
set_option maxRecDepth 100000 in
set_option maxHeartbeats 1000000 in
theorem c_X5_octet {l : Launch} {D : va_G} {aC : Nat → ClassId} {b0 fu : Nat} {a0 : Nat} {p0 : Int32} {p1 : Int32} {σ τ : tM} {v : Int32} (hm : m_X5_octet b0 fu a0 p0 p1 σ = some (v, τ)) : tMt l D aC b0 yX5_octet (Cond.code yX5_octet cX5_octet 3 (some .int)) 0 0 [.ref (a0), .int (p0), .int (p1)] σ (.inl (some (.int v))) τ := by
  unfold m_X5_octet at hm
  obtain ⟨hg, hm⟩ := grw_e hm
  refine tMt_of (n := 0) rfl (Nat.le_of_ble_eq_true rfl) hg ?_
  intro p e s m below meth c C htab hin
  refine zx_lv [0, 1, 2] [(0, .ref (a0)), (1, .int (p0)), (2, .int (p1))] rfl ?_
  refine zx_iload_n C dX5_octet_0 1 rfl ?_
  refine zx_if_lt C 23 dX5_octet_1 (by decide) (fun c1 => ?_) (fun c1 => ?_)
  · replace hm := ip_e hm c1
    exact zx_lv [] [] rfl (j_X5_octet_23 C htab hin    hm)
  · replace hm := in_e hm c1
    refine zx_iload_n C dX5_octet_4 1 rfl ?_
    refine zx_aload_n C dX5_octet_5 0 rfl ?_
    obtain ⟨k2, i3, hm⟩ := ckO_e hm
    refine zx_get (j := 7) C tC_5 k2 i3 ⟨by decide, Or.inl W_1_104⟩ dX5_octet_6 (.int (tI (σ) (a0) 7)) rfl ?_
    refine zx_icmp_ge C 23 dX5_octet_9 (by decide) (fun c4 => ?_) (fun c4 => ?_)
    · replace hm := ip_e hm c4
      exact zx_lv [] [] rfl (j_X5_octet_23 C htab hin    hm)
    · replace hm := in_e hm c4
      refine zx_iload_n C dX5_octet_12 2 rfl ?_
      refine zx_if_lt C 23 dX5_octet_13 (by decide) (fun c5 => ?_) (fun c5 => ?_)
      · replace hm := ip_e hm c5
        exact zx_lv [] [] rfl (j_X5_octet_23 C htab hin    hm)
      · replace hm := in_e hm c5
        refine zx_iload_n C dX5_octet_16 2 rfl ?_
        refine zx_sipush (v := 256) C dX5_octet_17 (by decide) ?_
        refine zx_icmp_lt C 25 dX5_octet_20 (by decide) (fun c6 => ?_) (fun c6 => ?_)
        · replace hm := ip_e hm c6
          refine zx_aload_n C dX5_octet_25 0 rfl ?_
          obtain ⟨a7, h8, hm⟩ := osm_e hm
          refine zx_get (j := 0) C tC_5 k2 i3 ⟨by decide, Or.inl W_1_94⟩ dX5_octet_26 (.ref a7) (rf_s h8) ?_
          refine zx_iload_n C dX5_octet_29 1 rfl ?_
          refine zx_bipush (v := 32) C dX5_octet_30 (by decide) ?_
          refine zx_imul C dX5_octet_32 ?_
          refine zx_iload_n C dX5_octet_33 2 rfl ?_
          refine zx_iconst (v := 3) C dX5_octet_34 (by decide) ?_
          refine zx_ishr C dX5_octet_35 ?_
          refine zx_iadd C dX5_octet_36 ?_
          obtain ⟨n11, k9, i10, hm⟩ := ckR_e hm
          obtain ⟨h12, hm⟩ := ckI_e hm
          refine zx_lald C k9 i10 h12 dX5_octet_37 ?_
          refine zx_iload_n C dX5_octet_38 2 rfl ?_
          refine zx_bipush (v := 7) C dX5_octet_39 (by decide) ?_
          refine zx_iand C dX5_octet_41 ?_
          refine zx_iconst (v := 3) C dX5_octet_42 (by decide) ?_
          refine zx_ishl C dX5_octet_43 ?_
          refine zx_lushr C dX5_octet_44 ?_
          refine zx_l2i C dX5_octet_45 ?_
          refine zx_sipush (v := 255) C dX5_octet_46 (by decide) ?_
          refine zx_iand C dX5_octet_49 ?_
          obtain ⟨rfl, rfl⟩ := ret_e hm
          exact zx_iret C rfl rfl rfl dX5_octet_50
        · replace hm := in_e hm c6
          exact zx_lv [] [] rfl (j_X5_octet_23 C htab hin    hm)
abbrev cX5_setOctet : ByteArray := prog_7_method_15_code
def yX5_setOctet : MethodName := ⟨"SyncTree$Space", "setOctet", "(III)V"⟩
theorem Y_X5_setOctet : tY yX5_setOctet cX5_setOctet 6 none 3 := ⟨W_4_183, W_1_3, ⟨by decide +kernel, by decide +kernel⟩, by decide +kernel⟩
theorem dX5_setOctet_0 : decode cX5_setOctet 0 = .ok (.iload_n 1, 1) := by decide +kernel
theorem dX5_setOctet_1 : decode cX5_setOctet 1 = .ok (.ifCond .le 22, 3) := by decide +kernel
theorem dX5_setOctet_4 : decode cX5_setOctet 4 = .ok (.iload_n 1, 1) := by decide +kernel
theorem dX5_setOctet_5 : decode cX5_setOctet 5 = .ok (.aload_n 0, 1) := by decide +kernel
theorem dX5_setOctet_6 : decode cX5_setOctet 6 = .ok (.getfield 48, 3) := by decide +kernel
theorem dX5_setOctet_9 : decode cX5_setOctet 9 = .ok (.if_icmp .ge 14, 3) := by decide +kernel
theorem dX5_setOctet_12 : decode cX5_setOctet 12 = .ok (.iload_n 2, 1) := by decide +kernel
theorem dX5_setOctet_13 : decode cX5_setOctet 13 = .ok (.ifCond .lt 10, 3) := by decide +kernel
theorem dX5_setOctet_16 : decode cX5_setOctet 16 = .ok (.iload_n 2, 1) := by decide +kernel
theorem dX5_setOctet_17 : decode cX5_setOctet 17 = .ok (.sipush 256, 3) := by decide +kernel
theorem dX5_setOctet_20 : decode cX5_setOctet 20 = .ok (.if_icmp .lt 4, 3) := by decide +kernel
theorem dX5_setOctet_23 : decode cX5_setOctet 23 = .ok (.return_, 1) := by decide +kernel
theorem dX5_setOctet_24 : decode cX5_setOctet 24 = .ok (.iload_n 1, 1) := by decide +kernel
theorem dX5_setOctet_25 : decode cX5_setOctet 25 = .ok (.bipush 32, 2) := by decide +kernel
theorem dX5_setOctet_27 : decode cX5_setOctet 27 = .ok (.imul, 1) := by decide +kernel
theorem dX5_setOctet_28 : decode cX5_setOctet 28 = .ok (.iload_n 2, 1) := by decide +kernel
theorem dX5_setOctet_29 : decode cX5_setOctet 29 = .ok (.iconst 3, 1) := by decide +kernel
theorem dX5_setOctet_30 : decode cX5_setOctet 30 = .ok (.ishr, 1) := by decide +kernel
theorem dX5_setOctet_31 : decode cX5_setOctet 31 = .ok (.iadd, 1) := by decide +kernel
theorem dX5_setOctet_32 : decode cX5_setOctet 32 = .ok (.istore 4, 2) := by decide +kernel
theorem dX5_setOctet_34 : decode cX5_setOctet 34 = .ok (.iload_n 2, 1) := by decide +kernel
theorem dX5_setOctet_35 : decode cX5_setOctet 35 = .ok (.bipush 7, 2) := by decide +kernel
theorem dX5_setOctet_37 : decode cX5_setOctet 37 = .ok (.iand, 1) := by decide +kernel
theorem dX5_setOctet_38 : decode cX5_setOctet 38 = .ok (.iconst 3, 1) := by decide +kernel
theorem dX5_setOctet_39 : decode cX5_setOctet 39 = .ok (.ishl, 1) := by decide +kernel
theorem dX5_setOctet_40 : decode cX5_setOctet 40 = .ok (.istore 5, 2) := by decide +kernel
theorem dX5_setOctet_42 : decode cX5_setOctet 42 = .ok (.aload_n 0, 1) := by decide +kernel
theorem dX5_setOctet_43 : decode cX5_setOctet 43 = .ok (.getfield 10, 3) := by decide +kernel
theorem dX5_setOctet_46 : decode cX5_setOctet 46 = .ok (.iload 4, 2) := by decide +kernel
theorem dX5_setOctet_48 : decode cX5_setOctet 48 = .ok (.aload_n 0, 1) := by decide +kernel
theorem dX5_setOctet_49 : decode cX5_setOctet 49 = .ok (.getfield 10, 3) := by decide +kernel
theorem dX5_setOctet_52 : decode cX5_setOctet 52 = .ok (.iload 4, 2) := by decide +kernel
theorem dX5_setOctet_54 : decode cX5_setOctet 54 = .ok (.laload, 1) := by decide +kernel
theorem dX5_setOctet_55 : decode cX5_setOctet 55 = .ok (.ldc2_w 100, 3) := by decide +kernel
theorem dX5_setOctet_58 : decode cX5_setOctet 58 = .ok (.iload 5, 2) := by decide +kernel
theorem dX5_setOctet_60 : decode cX5_setOctet 60 = .ok (.lshl, 1) := by decide +kernel
theorem dX5_setOctet_61 : decode cX5_setOctet 61 = .ok (.ldc2_w 102, 3) := by decide +kernel
theorem dX5_setOctet_64 : decode cX5_setOctet 64 = .ok (.lxor, 1) := by decide +kernel
theorem dX5_setOctet_65 : decode cX5_setOctet 65 = .ok (.land, 1) := by decide +kernel
theorem dX5_setOctet_66 : decode cX5_setOctet 66 = .ok (.iload_n 3, 1) := by decide +kernel
theorem dX5_setOctet_67 : decode cX5_setOctet 67 = .ok (.sipush 255, 3) := by decide +kernel
theorem dX5_setOctet_70 : decode cX5_setOctet 70 = .ok (.iand, 1) := by decide +kernel
theorem dX5_setOctet_71 : decode cX5_setOctet 71 = .ok (.i2l, 1) := by decide +kernel
theorem dX5_setOctet_72 : decode cX5_setOctet 72 = .ok (.iload 5, 2) := by decide +kernel
theorem dX5_setOctet_74 : decode cX5_setOctet 74 = .ok (.lshl, 1) := by decide +kernel
theorem dX5_setOctet_75 : decode cX5_setOctet 75 = .ok (.lor, 1) := by decide +kernel
theorem dX5_setOctet_76 : decode cX5_setOctet 76 = .ok (.lastore, 1) := by decide +kernel
theorem dX5_setOctet_77 : decode cX5_setOctet 77 = .ok (.return_, 1) := by decide +kernel
set_option maxRecDepth 100000 in
set_option maxHeartbeats 1000000 in
theorem j_X5_setOctet_23 {p : Program} {l : Launch} {e : Env} {s : State} {m : MethodId} {args : Array Value} {below : List Frame} {meth : Method} {c : Code} {D : va_G} {aC : Nat → ClassId} {b0 fu : Nat} {σ0 τ : tM} {v : Unit}  (C : tCx p l s m args meth c yX5_setOctet.cls cX5_setOctet 6 none D aC b0 σ0) (htab : ∀ x ∈ c.exceptionTable.toList, False) (hin : meth.name = yX5_setOctet.name)   {σ : tM} (hm : J_X5_setOctet_23 b0 fu   σ = some (v, τ)) : tX p l e s m args below meth c 6 0 0 D aC b0 σ0 (.inl none) τ 23 [] [] σ := by
  unfold J_X5_setOctet_23 at hm
  obtain ⟨rfl, rfl⟩ := ret_e hm
  exact zx_vret C rfl rfl rfl dX5_setOctet_23
set_option maxRecDepth 100000 in
set_option maxHeartbeats 1000000 in
theorem c_X5_setOctet {l : Launch} {D : va_G} {aC : Nat → ClassId} {b0 fu : Nat} {a0 : Nat} {p0 : Int32} {p1 : Int32} {p2 : Int32} {σ τ : tM} {v : Unit} (hm : m_X5_setOctet b0 fu a0 p0 p1 p2 σ = some (v, τ)) : tMt l D aC b0 yX5_setOctet (Cond.code yX5_setOctet cX5_setOctet 6 none) 0 0 [.ref (a0), .int (p0), .int (p1), .int (p2)] σ (.inl none) τ := by
  unfold m_X5_setOctet at hm
  obtain ⟨hg, hm⟩ := grw_e hm
  refine tMt_of (n := 0) rfl (Nat.le_of_ble_eq_true rfl) hg ?_
  intro p e s m below meth c C htab hin
  refine zx_lv [0, 1, 2, 3] [(0, .ref (a0)), (1, .int (p0)), (2, .int (p1)), (3, .int (p2))] rfl ?_
  refine zx_iload_n C dX5_setOctet_0 1 rfl ?_
  refine zx_if_le C 23 dX5_setOctet_1 (by decide) (fun c1 => ?_) (fun c1 => ?_)
  · replace hm := ip_e hm c1
    exact zx_lv [] [] rfl (j_X5_setOctet_23 C htab hin    hm)
  · replace hm := in_e hm c1
    refine zx_iload_n C dX5_setOctet_4 1 rfl ?_
    refine zx_aload_n C dX5_setOctet_5 0 rfl ?_
    obtain ⟨k2, i3, hm⟩ := ckO_e hm
    refine zx_get (j := 7) C tC_5 k2 i3 ⟨by decide, Or.inl W_1_104⟩ dX5_setOctet_6 (.int (tI (σ) (a0) 7)) rfl ?_
    refine zx_icmp_ge C 23 dX5_setOctet_9 (by decide) (fun c4 => ?_) (fun c4 => ?_)
    · replace hm := ip_e hm c4
      exact zx_lv [] [] rfl (j_X5_setOctet_23 C htab hin    hm)
    · replace hm := in_e hm c4
      refine zx_iload_n C dX5_setOctet_12 2 rfl ?_
      refine zx_if_lt C 23 dX5_setOctet_13 (by decide) (fun c5 => ?_) (fun c5 => ?_)
      · replace hm := ip_e hm c5
        exact zx_lv [] [] rfl (j_X5_setOctet_23 C htab hin    hm)
      · replace hm := in_e hm c5
        refine zx_iload_n C dX5_setOctet_16 2 rfl ?_
        refine zx_sipush (v := 256) C dX5_setOctet_17 (by decide) ?_
        refine zx_icmp_lt C 24 dX5_setOctet_20 (by decide) (fun c6 => ?_) (fun c6 => ?_)
        · replace hm := ip_e hm c6
          refine zx_iload_n C dX5_setOctet_24 1 rfl ?_
          refine zx_bipush (v := 32) C dX5_setOctet_25 (by decide) ?_
          refine zx_imul C dX5_setOctet_27 ?_
          refine zx_iload_n C dX5_setOctet_28 2 rfl ?_
          refine zx_iconst (v := 3) C dX5_setOctet_29 (by decide) ?_
          refine zx_ishr C dX5_setOctet_30 ?_
          refine zx_iadd C dX5_setOctet_31 ?_
          refine zx_topi (fun y7 hy7 => ?_)
          replace hm := ltb_e hm hy7
          refine zx_istore C [(4, .int (y7)), (0, .ref (a0)), (1, .int (p0)), (2, .int (p1)), (3, .int (p2))] dX5_setOctet_32 (by decide) rfl ?_
          refine zx_iload_n C dX5_setOctet_34 3 rfl ?_
          refine zx_bipush (v := 7) C dX5_setOctet_35 (by decide) ?_
          refine zx_iand C dX5_setOctet_37 ?_
          refine zx_iconst (v := 3) C dX5_setOctet_38 (by decide) ?_
          refine zx_ishl C dX5_setOctet_39 ?_
          refine zx_topi (fun y8 hy8 => ?_)
          replace hm := ltb_e hm hy8
          refine zx_istore C [(5, .int (y8)), (4, .int (y7)), (0, .ref (a0)), (1, .int (p0)), (2, .int (p1)), (3, .int (p2))] dX5_setOctet_40 (by decide) rfl ?_
          refine zx_aload_n C dX5_setOctet_42 2 rfl ?_
          obtain ⟨a9, h10, hm⟩ := osm_e hm
          refine zx_get (j := 0) C tC_5 k2 i3 ⟨by decide, Or.inl W_1_94⟩ dX5_setOctet_43 (.ref a9) (rf_s h10) ?_
          refine zx_iload C dX5_setOctet_46 1 rfl ?_
          refine zx_aload_n C dX5_setOctet_48 2 rfl ?_
          obtain ⟨a11, h12, hm⟩ := osm_e hm
          refine zx_get (j := 0) C tC_5 k2 i3 ⟨by decide, Or.inl W_1_94⟩ dX5_setOctet_49 (.ref a11) (rf_s h12) ?_
          refine zx_iload C dX5_setOctet_52 1 rfl ?_
          obtain ⟨n15, k13, i14, hm⟩ := ckR_e hm
          obtain ⟨h16, hm⟩ := ckI_e hm
          refine zx_lald C k13 i14 h16 dX5_setOctet_54 ?_
          refine zx_ldc2 (v := 255) C W_4_184 dX5_setOctet_55 ?_
          refine zx_iload C dX5_setOctet_58 0 rfl ?_
          refine zx_lshl C dX5_setOctet_60 ?_
          refine zx_ldc2 (v := (-1)) C W_4_185 dX5_setOctet_61 ?_
          refine zx_lxor C dX5_setOctet_64 ?_
          refine zx_land C dX5_setOctet_65 ?_
          refine zx_iload_n C dX5_setOctet_66 5 rfl ?_
          refine zx_sipush (v := 255) C dX5_setOctet_67 (by decide) ?_
          refine zx_iand C dX5_setOctet_70 ?_
          refine zx_i2l C dX5_setOctet_71 ?_
          refine zx_iload C dX5_setOctet_72 0 rfl ?_
          refine zx_lshl C dX5_setOctet_74 ?_
          refine zx_lor C dX5_setOctet_75 ?_
          obtain ⟨n19, k17, i18, hm⟩ := ckR_e hm
          obtain ⟨h20, hm⟩ := ckI_e hm
          refine zx_last C k17 i18 h20 dX5_setOctet_76 ?_
          obtain ⟨rfl, rfl⟩ := ret_e hm
          exact zx_vret C rfl rfl rfl dX5_setOctet_77
        · replace hm := in_e hm c6
          exact zx_lv [] [] rfl (j_X5_setOctet_23 C htab hin    hm)
abbrev cX5_setSpan : ByteArray := prog_7_method_16_code
def yX5_setSpan : MethodName := ⟨"SyncTree$Space", "setSpan", "(IIII)V"⟩
theorem Y_X5_setSpan : tY yX5_setSpan cX5_setSpan 9 none 4 := ⟨W_5_77, W_1_3, ⟨by decide +kernel, by decide +kernel⟩, by decide +kernel⟩
theorem dX5_setSpan_0 : decode cX5_setSpan 0 = .ok (.iload 4, 2) := by decide +kernel
theorem dX5_setSpan_2 : decode cX5_setSpan 2 = .ok (.sipush 255, 3) := by decide +kernel
theorem dX5_setSpan_5 : decode cX5_setSpan 5 = .ok (.iand, 1) := by decide +kernel
theorem dX5_setSpan_6 : decode cX5_setSpan 6 = .ok (.i2l, 1) := by decide +kernel
theorem dX5_setSpan_7 : decode cX5_setSpan 7 = .ok (.ldc2_w 104, 3) := by decide +kernel
theorem dX5_setSpan_10 : decode cX5_setSpan 10 = .ok (.lmul, 1) := by decide +kernel
theorem dX5_setSpan_11 : decode cX5_setSpan 11 = .ok (.lstore 5, 2) := by decide +kernel
theorem dX5_setSpan_13 : decode cX5_setSpan 13 = .ok (.iload_n 3, 1) := by decide +kernel
theorem dX5_setSpan_14 : decode cX5_setSpan 14 = .ok (.sipush 256, 3) := by decide +kernel
theorem dX5_setSpan_17 : decode cX5_setSpan 17 = .ok (.invokestatic 39, 3) := by decide +kernel
theorem dX5_setSpan_20 : decode cX5_setSpan 20 = .ok (.istore 7, 2) := by decide +kernel
theorem dX5_setSpan_22 : decode cX5_setSpan 22 = .ok (.iload_n 2, 1) := by decide +kernel
theorem dX5_setSpan_23 : decode cX5_setSpan 23 = .ok (.iconst 0, 1) := by decide +kernel
theorem dX5_setSpan_24 : decode cX5_setSpan 24 = .ok (.invokestatic 45, 3) := by decide +kernel
theorem dX5_setSpan_27 : decode cX5_setSpan 27 = .ok (.istore 8, 2) := by decide +kernel
theorem dX5_setSpan_29 : decode cX5_setSpan 29 = .ok (.iload 8, 2) := by decide +kernel
theorem dX5_setSpan_31 : decode cX5_setSpan 31 = .ok (.iload 7, 2) := by decide +kernel
theorem dX5_setSpan_33 : decode cX5_setSpan 33 = .ok (.if_icmp .ge 70, 3) := by decide +kernel
theorem dX5_setSpan_36 : decode cX5_setSpan 36 = .ok (.iload 8, 2) := by decide +kernel
theorem dX5_setSpan_38 : decode cX5_setSpan 38 = .ok (.bipush 7, 2) := by decide +kernel
theorem dX5_setSpan_40 : decode cX5_setSpan 40 = .ok (.iand, 1) := by decide +kernel
theorem dX5_setSpan_41 : decode cX5_setSpan 41 = .ok (.ifCond .ne 47, 3) := by decide +kernel
theorem dX5_setSpan_44 : decode cX5_setSpan 44 = .ok (.iload 7, 2) := by decide +kernel
theorem dX5_setSpan_46 : decode cX5_setSpan 46 = .ok (.iload 8, 2) := by decide +kernel
theorem dX5_setSpan_48 : decode cX5_setSpan 48 = .ok (.isub, 1) := by decide +kernel
theorem dX5_setSpan_49 : decode cX5_setSpan 49 = .ok (.bipush 8, 2) := by decide +kernel
theorem dX5_setSpan_51 : decode cX5_setSpan 51 = .ok (.if_icmp .lt 37, 3) := by decide +kernel
theorem dX5_setSpan_54 : decode cX5_setSpan 54 = .ok (.iload_n 1, 1) := by decide +kernel
theorem dX5_setSpan_55 : decode cX5_setSpan 55 = .ok (.ifCond .le 33, 3) := by decide +kernel
theorem dX5_setSpan_58 : decode cX5_setSpan 58 = .ok (.iload_n 1, 1) := by decide +kernel
theorem dX5_setSpan_59 : decode cX5_setSpan 59 = .ok (.aload_n 0, 1) := by decide +kernel
theorem dX5_setSpan_60 : decode cX5_setSpan 60 = .ok (.getfield 48, 3) := by decide +kernel
theorem dX5_setSpan_63 : decode cX5_setSpan 63 = .ok (.if_icmp .ge 25, 3) := by decide +kernel
theorem dX5_setSpan_66 : decode cX5_setSpan 66 = .ok (.aload_n 0, 1) := by decide +kernel
theorem dX5_setSpan_67 : decode cX5_setSpan 67 = .ok (.getfield 10, 3) := by decide +kernel
theorem dX5_setSpan_70 : decode cX5_setSpan 70 = .ok (.iload_n 1, 1) := by decide +kernel
theorem dX5_setSpan_71 : decode cX5_setSpan 71 = .ok (.bipush 32, 2) := by decide +kernel
theorem dX5_setSpan_73 : decode cX5_setSpan 73 = .ok (.imul, 1) := by decide +kernel
theorem dX5_setSpan_74 : decode cX5_setSpan 74 = .ok (.iload 8, 2) := by decide +kernel
theorem dX5_setSpan_76 : decode cX5_setSpan 76 = .ok (.iconst 3, 1) := by decide +kernel
theorem dX5_setSpan_77 : decode cX5_setSpan 77 = .ok (.ishr, 1) := by decide +kernel
theorem dX5_setSpan_78 : decode cX5_setSpan 78 = .ok (.iadd, 1) := by decide +kernel
theorem dX5_setSpan_79 : decode cX5_setSpan 79 = .ok (.lload 5, 2) := by decide +kernel
theorem dX5_setSpan_81 : decode cX5_setSpan 81 = .ok (.lastore, 1) := by decide +kernel
theorem dX5_setSpan_82 : decode cX5_setSpan 82 = .ok (.iinc 8 8, 3) := by decide +kernel
theorem dX5_setSpan_85 : decode cX5_setSpan 85 = .ok (.goto (-56), 3) := by decide +kernel
theorem dX5_setSpan_88 : decode cX5_setSpan 88 = .ok (.aload_n 0, 1) := by decide +kernel
theorem dX5_setSpan_89 : decode cX5_setSpan 89 = .ok (.iload_n 1, 1) := by decide +kernel
theorem dX5_setSpan_90 : decode cX5_setSpan 90 = .ok (.iload 8, 2) := by decide +kernel
theorem dX5_setSpan_92 : decode cX5_setSpan 92 = .ok (.iload 4, 2) := by decide +kernel
theorem dX5_setSpan_94 : decode cX5_setSpan 94 = .ok (.invokevirtual 106, 3) := by decide +kernel
theorem dX5_setSpan_97 : decode cX5_setSpan 97 = .ok (.iinc 8 1, 3) := by decide +kernel
theorem dX5_setSpan_100 : decode cX5_setSpan 100 = .ok (.goto (-71), 3) := by decide +kernel
theorem dX5_setSpan_103 : decode cX5_setSpan 103 = .ok (.return_, 1) := by decide +kernel
set_option maxRecDepth 100000 in
set_option maxHeartbeats 1000000 in
theorem j_X5_setSpan_88 {p : Program} {l : Launch} {e : Env} {s : State} {m : MethodId} {args : Array Value} {below : List Frame} {meth : Method} {c : Code} {D : va_G} {aC : Nat → ClassId} {b0 fu : Nat} {σ0 τ : tM} {v : Unit} {rc29 : Nat → Int32 → Int32 → Int64 → Int32 → Int32 → tM → Option ((Unit) × tM)} (C : tCx p l s m args meth c yX5_setSpan.cls cX5_setSpan 9 none D aC b0 σ0) (htab : ∀ x ∈ c.exceptionTable.toList, False) (hin : meth.name = yX5_setSpan.name) (hrc29 : ∀ (x0 : Nat) (x1 : Int32) (x4 : Int32) (x5 : Int64) (x7 : Int32) (x8 : Int32) (ρ : tM), rc29 x0 x1 x4 x5 x7 x8 ρ = some (v, τ) → tX p l e s m args below meth c 9 1 25 D aC b0 σ0 (.inl none) τ 29 [(0, .ref (x0)), (1, .int (x1)), (4, .int (x4)), (5, .long (x5)), (7, .int (x7)), (8, .int (x8))] [] ρ) {x0 : Nat} {x1 : Int32} {x4 : Int32} {x5 : Int64} {x7 : Int32} {x8 : Int32} {σ : tM} (hm : J_X5_setSpan_88 b0 fu rc29 x0 x1 x4 x5 x7 x8 σ = some (v, τ)) : tX p l e s m args below meth c 9 1 25 D aC b0 σ0 (.inl none) τ 88 [(0, .ref (x0)), (1, .int (x1)), (4, .int (x4)), (5, .long (x5)), (7, .int (x7)), (8, .int (x8))] [] σ := by
  unfold J_X5_setSpan_88 at hm
  refine zx_aload_n C dX5_setSpan_88 0 rfl ?_
  refine zx_iload_n C dX5_setSpan_89 1 rfl ?_
  refine zx_iload C dX5_setSpan_90 5 rfl ?_
  refine zx_iload C dX5_setSpan_92 2 rfl ?_
  obtain ⟨k6, i7, hm⟩ := ckO_e hm
  obtain ⟨v8, ρ9, h10, hm⟩ := cll_e hm
  refine zx_callV (σ := σ) C [.int (x1), .int (x8), .int (x4)] tC_5 k6 i7 Y_X5_setOctet W_5_79 W_4_181 W_4_182 (c_X5_setOctet h10) (by decide) (by decide) rfl (Nat.le_of_ble_eq_true rfl) dX5_setSpan_94 rfl ?_
  obtain ⟨y11, hy11⟩ : ∃ z : Int32, z = (x8) + Int32.ofInt 1 := ⟨_, rfl⟩
  replace hm := ltb_e hm hy11
  refine zx_iinc C [(8, .int (y11)), (0, .ref (x0)), (1, .int (x1)), (4, .int (x4)), (5, .long (x5)), (7, .int (x7))] dX5_setSpan_97 5 rfl hy11.symm (by decide) rfl ?_
  refine zx_goto C 29 dX5_setSpan_100 (by decide) ?_
  exact zx_lv [1, 2, 3, 4, 5, 0] [(0, .ref (x0)), (1, .int (x1)), (4, .int (x4)), (5, .long (x5)), (7, .int (x7)), (8, .int (y11))] rfl (hrc29 _ _ _ _ _ _ _ hm)
set_option maxRecDepth 100000 in
set_option maxHeartbeats 1000000 in
theorem l_X5_setSpan_29 {p : Program} {l : Launch} {e : Env} {s : State} {m : MethodId} {args : Array Value} {below : List Frame} {meth : Method} {c : Code} {D : va_G} {aC : Nat → ClassId} {b0 fu : Nat} {σ0 τ : tM} {v : Unit}  (C : tCx p l s m args meth c yX5_setSpan.cls cX5_setSpan 9 none D aC b0 σ0) (htab : ∀ x ∈ c.exceptionTable.toList, False) (hin : meth.name = yX5_setSpan.name)  : ∀ (n : Nat) (x0 : Nat) (x1 : Int32) (x4 : Int32) (x5 : Int64) (x7 : Int32) (x8 : Int32) (σ : tM), L_X5_setSpan_29 b0 fu  n x0 x1 x4 x5 x7 x8 σ = some (v, τ) → tX p l e s m args below meth c 9 1 25 D aC b0 σ0 (.inl none) τ 29 [(0, .ref (x0)), (1, .int (x1)), (4, .int (x4)), (5, .long (x5)), (7, .int (x7)), (8, .int (x8))] [] σ := by
  intro n
  induction n with
  | zero => intro x0 x1 x4 x5 x7 x8 σ hm; unfold L_X5_setSpan_29 at hm; cases hm
  | succ n ih =>
    intro x0 x1 x4 x5 x7 x8 σ hm
    unfold L_X5_setSpan_29 at hm
    obtain ⟨rc29, hrc⟩ : ∃ z, z = L_X5_setSpan_29 b0 fu  n := ⟨_, rfl⟩
    replace hm := ltb_e hm hrc
    rw [← hrc] at ih
    have hrc29 := ih
    clear ih hrc
    refine zx_iload C dX5_setSpan_29 5 rfl ?_
    refine zx_iload C dX5_setSpan_31 4 rfl ?_
    refine zx_icmp_ge C 103 dX5_setSpan_33 (by decide) (fun c4 => ?_) (fun c4 => ?_)
    · replace hm := ip_e hm c4
      obtain ⟨rfl, rfl⟩ := ret_e hm
      exact zx_vret C rfl rfl rfl dX5_setSpan_103
    · replace hm := in_e hm c4
      refine zx_iload C dX5_setSpan_36 5 rfl ?_
      refine zx_bipush (v := 7) C dX5_setSpan_38 (by decide) ?_
      refine zx_iand C dX5_setSpan_40 ?_
      refine zx_if_ne C 88 dX5_setSpan_41 (by decide) (fun c5 => ?_) (fun c5 => ?_)
      · replace hm := in_e hm c5
        exact zx_lv [0, 1, 2, 3, 4, 5] [(0, .ref (x0)), (1, .int (x1)), (4, .int (x4)), (5, .long (x5)), (7, .int (x7)), (8, .int (x8))] rfl (j_X5_setSpan_88 C htab hin hrc29   hm)
      · replace hm := ip_e hm c5
        refine zx_iload C dX5_setSpan_44 4 rfl ?_
        refine zx_iload C dX5_setSpan_46 5 rfl ?_
        refine zx_isub C dX5_setSpan_48 ?_
        refine zx_bipush (v := 8) C dX5_setSpan_49 (by decide) ?_
        refine zx_icmp_lt C 88 dX5_setSpan_51 (by decide) (fun c12 => ?_) (fun c12 => ?_)
        · replace hm := ip_e hm c12
          exact zx_lv [0, 1, 2, 3, 4, 5] [(0, .ref (x0)), (1, .int (x1)), (4, .int (x4)), (5, .long (x5)), (7, .int (x7)), (8, .int (x8))] rfl (j_X5_setSpan_88 C htab hin hrc29   hm)
        · replace hm := in_e hm c12
          refine zx_iload_n C dX5_setSpan_54 1 rfl ?_
          refine zx_if_le C 88 dX5_setSpan_55 (by decide) (fun c13 => ?_) (fun c13 => ?_)
          · replace hm := ip_e hm c13
            exact zx_lv [0, 1, 2, 3, 4, 5] [(0, .ref (x0)), (1, .int (x1)), (4, .int (x4)), (5, .long (x5)), (7, .int (x7)), (8, .int (x8))] rfl (j_X5_setSpan_88 C htab hin hrc29   hm)
          · replace hm := in_e hm c13
            refine zx_iload_n C dX5_setSpan_58 1 rfl ?_
            refine zx_aload_n C dX5_setSpan_59 0 rfl ?_
            obtain ⟨k14, i15, hm⟩ := ckO_e hm
            refine zx_get (j := 7) C tC_5 k14 i15 ⟨by decide, Or.inl W_1_104⟩ dX5_setSpan_60 (.int (tI (σ) (x0) 7)) rfl ?_
            refine zx_icmp_ge C 88 dX5_setSpan_63 (by decide) (fun c16 => ?_) (fun c16 => ?_)
            · replace hm := ip_e hm c16
              exact zx_lv [0, 1, 2, 3, 4, 5] [(0, .ref (x0)), (1, .int (x1)), (4, .int (x4)), (5, .long (x5)), (7, .int (x7)), (8, .int (x8))] rfl (j_X5_setSpan_88 C htab hin hrc29   hm)
            · replace hm := in_e hm c16
              refine zx_aload_n C dX5_setSpan_66 0 rfl ?_
              obtain ⟨a17, h18, hm⟩ := osm_e hm
              refine zx_get (j := 0) C tC_5 k14 i15 ⟨by decide, Or.inl W_1_94⟩ dX5_setSpan_67 (.ref a17) (rf_s h18) ?_
              refine zx_iload_n C dX5_setSpan_70 1 rfl ?_
              refine zx_bipush (v := 32) C dX5_setSpan_71 (by decide) ?_
              refine zx_imul C dX5_setSpan_73 ?_
              refine zx_iload C dX5_setSpan_74 5 rfl ?_
              refine zx_iconst (v := 3) C dX5_setSpan_76 (by decide) ?_
              refine zx_ishr C dX5_setSpan_77 ?_
              refine zx_iadd C dX5_setSpan_78 ?_
              refine zx_lload C dX5_setSpan_79 3 rfl ?_
              obtain ⟨n21, k19, i20, hm⟩ := ckR_e hm
              obtain ⟨h22, hm⟩ := ckI_e hm
              refine zx_last C k19 i20 h22 dX5_setSpan_81 ?_
              obtain ⟨y23, hy23⟩ : ∃ z : Int32, z = (x8) + Int32.ofInt 8 := ⟨_, rfl⟩
              replace hm := ltb_e hm hy23
              refine zx_iinc C [(8, .int (y23)), (0, .ref (x0)), (1, .int (x1)), (4, .int (x4)), (5, .long (x5)), (7, .int (x7))] dX5_setSpan_82 5 rfl hy23.symm (by decide) rfl ?_
              refine zx_goto C 29 dX5_setSpan_85 (by decide) ?_
              exact zx_lv [1, 2, 3, 4, 5, 0] [(0, .ref (x0)), (1, .int (x1)), (4, .int (x4)), (5, .long (x5)), (7, .int (x7)), (8, .int (y23))] rfl (hrc29 _ _ _ _ _ _ _ hm)
set_option maxRecDepth 100000 in
set_option maxHeartbeats 1000000 in
theorem c_X5_setSpan {l : Launch} {D : va_G} {aC : Nat → ClassId} {b0 fu : Nat} {a0 : Nat} {p0 : Int32} {p1 : Int32} {p2 : Int32} {p3 : Int32} {σ τ : tM} {v : Unit} (hm : m_X5_setSpan b0 fu a0 p0 p1 p2 p3 σ = some (v, τ)) : tMt l D aC b0 yX5_setSpan (Cond.code yX5_setSpan cX5_setSpan 9 none) 1 25 [.ref (a0), .int (p0), .int (p1), .int (p2), .int (p3)] σ (.inl none) τ := by
  unfold m_X5_setSpan at hm
  obtain ⟨hg, hm⟩ := grw_e hm
  refine tMt_of (n := 0) rfl (Nat.le_of_ble_eq_true rfl) hg ?_
  intro p e s m below meth c C htab hin
  refine zx_lv [0, 1, 2, 3, 4] [(0, .ref (a0)), (1, .int (p0)), (2, .int (p1)), (3, .int (p2)), (4, .int (p3))] rfl ?_
  refine zx_iload C dX5_setSpan_0 4 rfl ?_
  refine zx_sipush (v := 255) C dX5_setSpan_2 (by decide) ?_
  refine zx_iand C dX5_setSpan_5 ?_
  refine zx_i2l C dX5_setSpan_6 ?_
  refine zx_ldc2 (v := 72340172838076673) C W_5_78 dX5_setSpan_7 ?_
  refine zx_lmul C dX5_setSpan_10 ?_
  refine zx_topl (fun y1 hy1 => ?_)
  replace hm := ltb_e hm hy1
  refine zx_lstore C [(5, .long (y1)), (0, .ref (a0)), (1, .int (p0)), (2, .int (p1)), (3, .int (p2)), (4, .int (p3))] dX5_setSpan_11 (by decide) rfl ?_
  refine zx_iload_n C dX5_setSpan_13 4 rfl ?_
  refine zx_sipush (v := 256) C dX5_setSpan_14 (by decide) ?_
  refine zx_min C W_2_127 W_2_106 W_1_10 W_2_107 (by decide) (by decide) (Nat.le_of_ble_eq_true rfl) dX5_setSpan_17 ?_
  refine zx_topi (fun y2 hy2 => ?_)
  replace hm := ltb_e hm hy2
  refine zx_istore C [(7, .int (y2)), (5, .long (y1)), (0, .ref (a0)), (1, .int (p0)), (2, .int (p1)), (3, .int (p2)), (4, .int (p3))] dX5_setSpan_20 (by decide) rfl ?_
  refine zx_iload_n C dX5_setSpan_22 4 rfl ?_
  refine zx_iconst (v := 0) C dX5_setSpan_23 (by decide) ?_
  refine zx_max C W_2_128 W_2_109 W_1_10 W_2_110 (by decide) (by decide) (Nat.le_of_ble_eq_true rfl) dX5_setSpan_24 ?_
  refine zx_topi (fun y3 hy3 => ?_)
  replace hm := ltb_e hm hy3
  refine zx_istore C [(8, .int (y3)), (7, .int (y2)), (5, .long (y1)), (0, .ref (a0)), (1, .int (p0)), (2, .int (p1)), (3, .int (p2)), (4, .int (p3))] dX5_setSpan_27 (by decide) rfl ?_
  exact zx_lv [3, 4, 7, 2, 1, 0] [(0, .ref (a0)), (1, .int (p0)), (4, .int (p3)), (5, .long (y1)), (7, .int (y2)), (8, .int (y3))] rfl (l_X5_setSpan_29 C htab hin  _ _ _ _ _ _ _ _ hm)
abbrev cX5_isZeroFrom : ByteArray := prog_7_method_17_code
def yX5_isZeroFrom : MethodName := ⟨"SyncTree$Space", "isZeroFrom", "(II)Z"⟩
theorem Y_X5_isZeroFrom : tY yX5_isZeroFrom cX5_isZeroFrom 4 (some .boolean) 2 := ⟨W_5_40, W_1_3, ⟨by decide +kernel, by decide +kernel⟩, by decide +kernel⟩
theorem dX5_isZeroFrom_0 : decode cX5_isZeroFrom 0 = .ok (.iload_n 2, 1) := by decide +kernel
theorem dX5_isZeroFrom_1 : decode cX5_isZeroFrom 1 = .ok (.iconst 0, 1) := by decide +kernel
theorem dX5_isZeroFrom_2 : decode cX5_isZeroFrom 2 = .ok (.invokestatic 45, 3) := by decide +kernel
theorem dX5_isZeroFrom_5 : decode cX5_isZeroFrom 5 = .ok (.istore_n 3, 1) := by decide +kernel
theorem dX5_isZeroFrom_6 : decode cX5_isZeroFrom 6 = .ok (.iload_n 3, 1) := by decide +kernel
theorem dX5_isZeroFrom_7 : decode cX5_isZeroFrom 7 = .ok (.sipush 256, 3) := by decide +kernel
theorem dX5_isZeroFrom_10 : decode cX5_isZeroFrom 10 = .ok (.if_icmp .ge 48, 3) := by decide +kernel
theorem dX5_isZeroFrom_13 : decode cX5_isZeroFrom 13 = .ok (.iload_n 3, 1) := by decide +kernel
theorem dX5_isZeroFrom_14 : decode cX5_isZeroFrom 14 = .ok (.bipush 7, 2) := by decide +kernel
theorem dX5_isZeroFrom_16 : decode cX5_isZeroFrom 16 = .ok (.iand, 1) := by decide +kernel
theorem dX5_isZeroFrom_17 : decode cX5_isZeroFrom 17 = .ok (.ifCond .ne 24, 3) := by decide +kernel
theorem dX5_isZeroFrom_20 : decode cX5_isZeroFrom 20 = .ok (.aload_n 0, 1) := by decide +kernel
theorem dX5_isZeroFrom_21 : decode cX5_isZeroFrom 21 = .ok (.iload_n 1, 1) := by decide +kernel
theorem dX5_isZeroFrom_22 : decode cX5_isZeroFrom 22 = .ok (.iload_n 3, 1) := by decide +kernel
theorem dX5_isZeroFrom_23 : decode cX5_isZeroFrom 23 = .ok (.iconst 3, 1) := by decide +kernel
theorem dX5_isZeroFrom_24 : decode cX5_isZeroFrom 24 = .ok (.ishr, 1) := by decide +kernel
theorem dX5_isZeroFrom_25 : decode cX5_isZeroFrom 25 = .ok (.invokevirtual 93, 3) := by decide +kernel
theorem dX5_isZeroFrom_28 : decode cX5_isZeroFrom 28 = .ok (.lconst 0, 1) := by decide +kernel
theorem dX5_isZeroFrom_29 : decode cX5_isZeroFrom 29 = .ok (.lcmp, 1) := by decide +kernel
theorem dX5_isZeroFrom_30 : decode cX5_isZeroFrom 30 = .ok (.ifCond .eq 5, 3) := by decide +kernel
theorem dX5_isZeroFrom_33 : decode cX5_isZeroFrom 33 = .ok (.iconst 0, 1) := by decide +kernel
theorem dX5_isZeroFrom_34 : decode cX5_isZeroFrom 34 = .ok (.ireturn, 1) := by decide +kernel
theorem dX5_isZeroFrom_35 : decode cX5_isZeroFrom 35 = .ok (.iinc 3 8, 3) := by decide +kernel
theorem dX5_isZeroFrom_38 : decode cX5_isZeroFrom 38 = .ok (.goto (-32), 3) := by decide +kernel
theorem dX5_isZeroFrom_41 : decode cX5_isZeroFrom 41 = .ok (.aload_n 0, 1) := by decide +kernel
theorem dX5_isZeroFrom_42 : decode cX5_isZeroFrom 42 = .ok (.iload_n 1, 1) := by decide +kernel
theorem dX5_isZeroFrom_43 : decode cX5_isZeroFrom 43 = .ok (.iload_n 3, 1) := by decide +kernel
theorem dX5_isZeroFrom_44 : decode cX5_isZeroFrom 44 = .ok (.invokevirtual 110, 3) := by decide +kernel
theorem dX5_isZeroFrom_47 : decode cX5_isZeroFrom 47 = .ok (.ifCond .eq 5, 3) := by decide +kernel
theorem dX5_isZeroFrom_50 : decode cX5_isZeroFrom 50 = .ok (.iconst 0, 1) := by decide +kernel
theorem dX5_isZeroFrom_51 : decode cX5_isZeroFrom 51 = .ok (.ireturn, 1) := by decide +kernel
theorem dX5_isZeroFrom_52 : decode cX5_isZeroFrom 52 = .ok (.iinc 3 1, 3) := by decide +kernel
theorem dX5_isZeroFrom_55 : decode cX5_isZeroFrom 55 = .ok (.goto (-49), 3) := by decide +kernel
theorem dX5_isZeroFrom_58 : decode cX5_isZeroFrom 58 = .ok (.iconst 1, 1) := by decide +kernel
theorem dX5_isZeroFrom_59 : decode cX5_isZeroFrom 59 = .ok (.ireturn, 1) := by decide +kernel
set_option maxRecDepth 100000 in
set_option maxHeartbeats 1000000 in
theorem l_X5_isZeroFrom_6 {p : Program} {l : Launch} {e : Env} {s : State} {m : MethodId} {args : Array Value} {below : List Frame} {meth : Method} {c : Code} {D : va_G} {aC : Nat → ClassId} {b0 fu : Nat} {σ0 τ : tM} {v : Int32}  (C : tCx p l s m args meth c yX5_isZeroFrom.cls cX5_isZeroFrom 4 (some .boolean) D aC b0 σ0) (htab : ∀ x ∈ c.exceptionTable.toList, False) (hin : meth.name = yX5_isZeroFrom.name)  : ∀ (n : Nat) (x0 : Nat) (x1 : Int32) (x3 : Int32) (σ : tM), L_X5_isZeroFrom_6 b0 fu  n x0 x1 x3 σ = some (v, τ) → tX p l e s m args below meth c 4 1 22 D aC b0 σ0 (.inl (some (.int v))) τ 6 [(0, .ref (x0)), (1, .int (x1)), (3, .int (x3))] [] σ := by
  intro n
  induction n with
  | zero => intro x0 x1 x3 σ hm; unfold L_X5_isZeroFrom_6 at hm; cases hm
  | succ n ih =>
    intro x0 x1 x3 σ hm
    unfold L_X5_isZeroFrom_6 at hm
    obtain ⟨rc6, hrc⟩ : ∃ z, z = L_X5_isZeroFrom_6 b0 fu  n := ⟨_, rfl⟩
    replace hm := ltb_e hm hrc
    rw [← hrc] at ih
    have hrc6 := ih
    clear ih hrc
    refine zx_iload_n C dX5_isZeroFrom_6 2 rfl ?_
    refine zx_sipush (v := 256) C dX5_isZeroFrom_7 (by decide) ?_
    refine zx_icmp_ge C 58 dX5_isZeroFrom_10 (by decide) (fun c2 => ?_) (fun c2 => ?_)
    · replace hm := ip_e hm c2
      refine zx_iconst (v := 1) C dX5_isZeroFrom_58 (by decide) ?_
      obtain ⟨rfl, rfl⟩ := ret_e hm
      exact zx_zret C rfl (by decide) rfl rfl dX5_isZeroFrom_59
    · replace hm := in_e hm c2
      refine zx_iload_n C dX5_isZeroFrom_13 2 rfl ?_
      refine zx_bipush (v := 7) C dX5_isZeroFrom_14 (by decide) ?_
      refine zx_iand C dX5_isZeroFrom_16 ?_
      refine zx_if_ne C 41 dX5_isZeroFrom_17 (by decide) (fun c3 => ?_) (fun c3 => ?_)
      · replace hm := in_e hm c3
        refine zx_aload_n C dX5_isZeroFrom_41 0 rfl ?_
        refine zx_iload_n C dX5_isZeroFrom_42 1 rfl ?_
        refine zx_iload_n C dX5_isZeroFrom_43 2 rfl ?_
        obtain ⟨k4, i5, hm⟩ := ckO_e hm
        obtain ⟨v6, ρ7, h8, hm⟩ := cll_e hm
        refine zx_callV (σ := σ) C [.int (x1), .int (x3)] tC_5 k4 i5 Y_X5_octet W_5_41 W_4_121 W_4_122 (c_X5_octet h8) (by decide) (by decide) rfl (Nat.le_of_ble_eq_true rfl) dX5_isZeroFrom_44 rfl ?_
        refine zx_if_eq C 52 dX5_isZeroFrom_47 (by decide) (fun c9 => ?_) (fun c9 => ?_)
        · replace hm := ip_e hm c9
          obtain ⟨y10, hy10⟩ : ∃ z : Int32, z = (x3) + Int32.ofInt 1 := ⟨_, rfl⟩
          replace hm := ltb_e hm hy10
          refine zx_iinc C [(3, .int (y10)), (0, .ref (x0)), (1, .int (x1))] dX5_isZeroFrom_52 2 rfl hy10.symm (by decide) rfl ?_
          refine zx_goto C 6 dX5_isZeroFrom_55 (by decide) ?_
          exact zx_lv [1, 2, 0] [(0, .ref (x0)), (1, .int (x1)), (3, .int (y10))] rfl (hrc6 _ _ _ _ hm)
        · replace hm := in_e hm c9
          refine zx_iconst (v := 0) C dX5_isZeroFrom_50 (by decide) ?_
          obtain ⟨rfl, rfl⟩ := ret_e hm
          exact zx_zret C rfl (by decide) rfl rfl dX5_isZeroFrom_51
      · replace hm := ip_e hm c3
        refine zx_aload_n C dX5_isZeroFrom_20 0 rfl ?_
        refine zx_iload_n C dX5_isZeroFrom_21 1 rfl ?_
        refine zx_iload_n C dX5_isZeroFrom_22 2 rfl ?_
        refine zx_iconst (v := 3) C dX5_isZeroFrom_23 (by decide) ?_
        refine zx_ishr C dX5_isZeroFrom_24 ?_
        obtain ⟨k11, i12, hm⟩ := ckO_e hm
        obtain ⟨v13, ρ14, h15, hm⟩ := cll_e hm
        refine zx_callV (σ := σ) C [.int (x1), .int ((x3) >>> (((3 : Int32)) &&& 31))] tC_5 k11 i12 Y_X5_word W_2_140 W_2_141 W_2_142 (c_X5_word h15) (by decide) (by decide) rfl (Nat.le_of_ble_eq_true rfl) dX5_isZeroFrom_25 rfl ?_
        refine zx_lconst (v := 0) C dX5_isZeroFrom_28 (by decide) ?_
        refine zx_lcmp C dX5_isZeroFrom_29 ?_
        refine zx_if_eq C 35 dX5_isZeroFrom_30 (by decide) (fun c16 => ?_) (fun c16 => ?_)
        · replace hm := ip_e hm c16
          obtain ⟨y17, hy17⟩ : ∃ z : Int32, z = (x3) + Int32.ofInt 8 := ⟨_, rfl⟩
          replace hm := ltb_e hm hy17
          refine zx_iinc C [(3, .int (y17)), (0, .ref (x0)), (1, .int (x1))] dX5_isZeroFrom_35 2 rfl hy17.symm (by decide) rfl ?_
          refine zx_goto C 6 dX5_isZeroFrom_38 (by decide) ?_
          exact zx_lv [1, 2, 0] [(0, .ref (x0)), (1, .int (x1)), (3, .int (y17))] rfl (hrc6 _ _ _ _ hm)
        · replace hm := in_e hm c16
          refine zx_iconst (v := 0) C dX5_isZeroFrom_33 (by decide) ?_
          obtain ⟨rfl, rfl⟩ := ret_e hm
          exact zx_zret C rfl (by decide) rfl rfl dX5_isZeroFrom_34
set_option maxRecDepth 100000 in
set_option maxHeartbeats 1000000 in
theorem c_X5_isZeroFrom {l : Launch} {D : va_G} {aC : Nat → ClassId} {b0 fu : Nat} {a0 : Nat} {p0 : Int32} {p1 : Int32} {σ τ : tM} {v : Int32} (hm : m_X5_isZeroFrom b0 fu a0 p0 p1 σ = some (v, τ)) : tMt l D aC b0 yX5_isZeroFrom (Cond.code yX5_isZeroFrom cX5_isZeroFrom 4 (some .boolean)) 1 22 [.ref (a0), .int (p0), .int (p1)] σ (.inl (some (.int v))) τ := by
  unfold m_X5_isZeroFrom at hm
  obtain ⟨hg, hm⟩ := grw_e hm
  refine tMt_of (n := 0) rfl (Nat.le_of_ble_eq_true rfl) hg ?_
  intro p e s m below meth c C htab hin
  refine zx_lv [0, 1, 2] [(0, .ref (a0)), (1, .int (p0)), (2, .int (p1))] rfl ?_
  refine zx_iload_n C dX5_isZeroFrom_0 2 rfl ?_
  refine zx_iconst (v := 0) C dX5_isZeroFrom_1 (by decide) ?_
  refine zx_max C W_2_128 W_2_109 W_1_10 W_2_110 (by decide) (by decide) (Nat.le_of_ble_eq_true rfl) dX5_isZeroFrom_2 ?_
  refine zx_topi (fun y1 hy1 => ?_)
  replace hm := ltb_e hm hy1
  refine zx_istore_n C [(3, .int (y1)), (0, .ref (a0)), (1, .int (p0)), (2, .int (p1))] dX5_isZeroFrom_5 rfl (by decide) rfl ?_
  exact zx_lv [1, 2, 0] [(0, .ref (a0)), (1, .int (p0)), (3, .int (y1))] rfl (l_X5_isZeroFrom_6 C htab hin  _ _ _ _ _ hm)
