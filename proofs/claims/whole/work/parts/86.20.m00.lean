abbrev cX0_init : ByteArray := prog_2_method_1_code
def yX0_init : MethodName := ⟨"SyncTree$Disk", "<init>", "()V"⟩
theorem Y_X0_init : tY yX0_init cX0_init 1 none 0 := ⟨W_1_32, W_1_2, ⟨by decide +kernel, by decide +kernel⟩, by decide +kernel⟩
theorem dX0_init_0 : decode cX0_init 0 = .ok (.aload_n 0, 1) := by decide +kernel
theorem dX0_init_1 : decode cX0_init 1 = .ok (.invokespecial 3, 3) := by decide +kernel
theorem dX0_init_4 : decode cX0_init 4 = .ok (.aload_n 0, 1) := by decide +kernel
theorem dX0_init_5 : decode cX0_init 5 = .ok (.sipush 6130, 3) := by decide +kernel
theorem dX0_init_8 : decode cX0_init 8 = .ok (.newarray .int, 2) := by decide +kernel
theorem dX0_init_10 : decode cX0_init 10 = .ok (.putfield 9, 3) := by decide +kernel
theorem dX0_init_13 : decode cX0_init 13 = .ok (.aload_n 0, 1) := by decide +kernel
theorem dX0_init_14 : decode cX0_init 14 = .ok (.sipush 6130, 3) := by decide +kernel
theorem dX0_init_17 : decode cX0_init 17 = .ok (.anewarray 15, 3) := by decide +kernel
theorem dX0_init_20 : decode cX0_init 20 = .ok (.putfield 17, 3) := by decide +kernel
theorem dX0_init_23 : decode cX0_init 23 = .ok (.aload_n 0, 1) := by decide +kernel
theorem dX0_init_24 : decode cX0_init 24 = .ok (.sipush 6130, 3) := by decide +kernel
theorem dX0_init_27 : decode cX0_init 27 = .ok (.newarray .int, 2) := by decide +kernel
theorem dX0_init_29 : decode cX0_init 29 = .ok (.putfield 21, 3) := by decide +kernel
theorem dX0_init_32 : decode cX0_init 32 = .ok (.aload_n 0, 1) := by decide +kernel
theorem dX0_init_33 : decode cX0_init 33 = .ok (.sipush 6130, 3) := by decide +kernel
theorem dX0_init_36 : decode cX0_init 36 = .ok (.newarray .int, 2) := by decide +kernel
theorem dX0_init_38 : decode cX0_init 38 = .ok (.putfield 24, 3) := by decide +kernel
theorem dX0_init_41 : decode cX0_init 41 = .ok (.aload_n 0, 1) := by decide +kernel
theorem dX0_init_42 : decode cX0_init 42 = .ok (.sipush 256, 3) := by decide +kernel
theorem dX0_init_45 : decode cX0_init 45 = .ok (.newarray .int, 2) := by decide +kernel
theorem dX0_init_47 : decode cX0_init 47 = .ok (.putfield 27, 3) := by decide +kernel
theorem dX0_init_50 : decode cX0_init 50 = .ok (.aload_n 0, 1) := by decide +kernel
theorem dX0_init_51 : decode cX0_init 51 = .ok (.sipush 256, 3) := by decide +kernel
theorem dX0_init_54 : decode cX0_init 54 = .ok (.newarray .int, 2) := by decide +kernel
theorem dX0_init_56 : decode cX0_init 56 = .ok (.putfield 30, 3) := by decide +kernel
theorem dX0_init_59 : decode cX0_init 59 = .ok (.aload_n 0, 1) := by decide +kernel
theorem dX0_init_60 : decode cX0_init 60 = .ok (.sipush 256, 3) := by decide +kernel
theorem dX0_init_63 : decode cX0_init 63 = .ok (.anewarray 15, 3) := by decide +kernel
theorem dX0_init_66 : decode cX0_init 66 = .ok (.putfield 33, 3) := by decide +kernel
theorem dX0_init_69 : decode cX0_init 69 = .ok (.aload_n 0, 1) := by decide +kernel
theorem dX0_init_70 : decode cX0_init 70 = .ok (.sipush 256, 3) := by decide +kernel
theorem dX0_init_73 : decode cX0_init 73 = .ok (.newarray .boolean, 2) := by decide +kernel
theorem dX0_init_75 : decode cX0_init 75 = .ok (.putfield 36, 3) := by decide +kernel
theorem dX0_init_78 : decode cX0_init 78 = .ok (.return_, 1) := by decide +kernel
set_option maxRecDepth 100000 in
set_option maxHeartbeats 1000000 in
theorem c_X0_init {l : Launch} {D : va_G} {aC : Nat → ClassId} {b0 fu : Nat} {a0 : Nat} {σ τ : tM} {v : Unit} (hm : m_X0_init b0 fu a0 σ = some (v, τ)) : tMt l D aC b0 yX0_init (Cond.code yX0_init cX0_init 1 none) 1 20 [.ref (a0)] σ (.inl none) τ := by
  unfold m_X0_init at hm
  obtain ⟨hg, hm⟩ := grw_e hm
  refine tMt_of (n := 0) rfl (Nat.le_of_ble_eq_true rfl) hg ?_
  intro p e s m below meth c C htab hin
  refine zx_lv [0] [(0, .ref (a0))] rfl ?_
  refine zx_aload_n C dX0_init_0 0 rfl ?_
  refine zx_obj C W_1_33 W_1_26 W_1_27 (by decide) (by decide) (Nat.le_of_ble_eq_true rfl) dX0_init_1 ?_
  refine zx_aload_n C dX0_init_4 0 rfl ?_
  refine zx_sipush (v := 6130) C dX0_init_5 (by decide) ?_
  refine zx_newI C W_1_85 (by decide) (by decide) dX0_init_8 ?_
  refine zx_mem (fun ρ1 hρ1 => ?_)
  replace hm := ltb_e hm hρ1
  have k2 : tk ρ1 (b0 + tn σ) = .inr (0, ((6130 : Int32)).toNatClampNeg) := by rw [hρ1]; exact sN_k _ _ _ _
  have i3 : tIn b0 ρ1 (b0 + tn σ) := by rw [hρ1]; exact sN_i _ _ _ _
  obtain ⟨k4, i5, hm⟩ := ckO_e hm
  refine zx_putF (j := 0) (ρ := sA (ρ1) (a0) 0 (some (b0 + tn σ))) C hin tC_0 k4 i5 (by decide) W_1_36 rfl rfl rfl rfl (sA_ok (fun _ => rfl)) dX0_init_10 ?_
  refine zx_aload_n C dX0_init_13 0 rfl ?_
  refine zx_sipush (v := 6130) C dX0_init_14 (by decide) ?_
  refine zx_newR C W_1_34 W_1_35 (by decide) (by decide) dX0_init_17 ?_
  refine zx_mem (fun ρ6 hρ6 => ?_)
  replace hm := ltb_e hm hρ6
  have k7 : tk ρ6 (b0 + tn ρ1) = .inr (4, ((6130 : Int32)).toNatClampNeg) := by rw [hρ6]; exact sN_k _ _ _ _
  have i8 : tIn b0 ρ6 (b0 + tn ρ1) := by rw [hρ6]; exact sN_i _ _ _ _
  obtain ⟨k9, i10, hm⟩ := ckO_e hm
  refine zx_putF (j := 1) (ρ := sA (ρ6) (a0) 1 (some (b0 + tn ρ1))) C hin tC_0 k9 i10 (by decide) W_1_37 rfl rfl rfl rfl (sA_ok (fun _ => rfl)) dX0_init_20 ?_
  refine zx_aload_n C dX0_init_23 0 rfl ?_
  refine zx_sipush (v := 6130) C dX0_init_24 (by decide) ?_
  refine zx_newI C W_1_85 (by decide) (by decide) dX0_init_27 ?_
  refine zx_mem (fun ρ11 hρ11 => ?_)
  replace hm := ltb_e hm hρ11
  have k12 : tk ρ11 (b0 + tn ρ6) = .inr (0, ((6130 : Int32)).toNatClampNeg) := by rw [hρ11]; exact sN_k _ _ _ _
  have i13 : tIn b0 ρ11 (b0 + tn ρ6) := by rw [hρ11]; exact sN_i _ _ _ _
  obtain ⟨k14, i15, hm⟩ := ckO_e hm
  refine zx_putF (j := 2) (ρ := sA (ρ11) (a0) 2 (some (b0 + tn ρ6))) C hin tC_0 k14 i15 (by decide) W_1_38 rfl rfl rfl rfl (sA_ok (fun _ => rfl)) dX0_init_29 ?_
  refine zx_aload_n C dX0_init_32 0 rfl ?_
  refine zx_sipush (v := 6130) C dX0_init_33 (by decide) ?_
  refine zx_newI C W_1_85 (by decide) (by decide) dX0_init_36 ?_
  refine zx_mem (fun ρ16 hρ16 => ?_)
  replace hm := ltb_e hm hρ16
  have k17 : tk ρ16 (b0 + tn ρ11) = .inr (0, ((6130 : Int32)).toNatClampNeg) := by rw [hρ16]; exact sN_k _ _ _ _
  have i18 : tIn b0 ρ16 (b0 + tn ρ11) := by rw [hρ16]; exact sN_i _ _ _ _
  obtain ⟨k19, i20, hm⟩ := ckO_e hm
  refine zx_putF (j := 3) (ρ := sA (ρ16) (a0) 3 (some (b0 + tn ρ11))) C hin tC_0 k19 i20 (by decide) W_1_39 rfl rfl rfl rfl (sA_ok (fun _ => rfl)) dX0_init_38 ?_
  refine zx_aload_n C dX0_init_41 0 rfl ?_
  refine zx_sipush (v := 256) C dX0_init_42 (by decide) ?_
  refine zx_newI C W_1_85 (by decide) (by decide) dX0_init_45 ?_
  refine zx_mem (fun ρ21 hρ21 => ?_)
  replace hm := ltb_e hm hρ21
  have k22 : tk ρ21 (b0 + tn ρ16) = .inr (0, ((256 : Int32)).toNatClampNeg) := by rw [hρ21]; exact sN_k _ _ _ _
  have i23 : tIn b0 ρ21 (b0 + tn ρ16) := by rw [hρ21]; exact sN_i _ _ _ _
  obtain ⟨k24, i25, hm⟩ := ckO_e hm
  refine zx_putF (j := 4) (ρ := sA (ρ21) (a0) 4 (some (b0 + tn ρ16))) C hin tC_0 k24 i25 (by decide) W_1_40 rfl rfl rfl rfl (sA_ok (fun _ => rfl)) dX0_init_47 ?_
  refine zx_aload_n C dX0_init_50 0 rfl ?_
  refine zx_sipush (v := 256) C dX0_init_51 (by decide) ?_
  refine zx_newI C W_1_85 (by decide) (by decide) dX0_init_54 ?_
  refine zx_mem (fun ρ26 hρ26 => ?_)
  replace hm := ltb_e hm hρ26
  have k27 : tk ρ26 (b0 + tn ρ21) = .inr (0, ((256 : Int32)).toNatClampNeg) := by rw [hρ26]; exact sN_k _ _ _ _
  have i28 : tIn b0 ρ26 (b0 + tn ρ21) := by rw [hρ26]; exact sN_i _ _ _ _
  obtain ⟨k29, i30, hm⟩ := ckO_e hm
  refine zx_putF (j := 5) (ρ := sA (ρ26) (a0) 5 (some (b0 + tn ρ21))) C hin tC_0 k29 i30 (by decide) W_1_41 rfl rfl rfl rfl (sA_ok (fun _ => rfl)) dX0_init_56 ?_
  refine zx_aload_n C dX0_init_59 0 rfl ?_
  refine zx_sipush (v := 256) C dX0_init_60 (by decide) ?_
  refine zx_newR C W_1_34 W_1_35 (by decide) (by decide) dX0_init_63 ?_
  refine zx_mem (fun ρ31 hρ31 => ?_)
  replace hm := ltb_e hm hρ31
  have k32 : tk ρ31 (b0 + tn ρ26) = .inr (4, ((256 : Int32)).toNatClampNeg) := by rw [hρ31]; exact sN_k _ _ _ _
  have i33 : tIn b0 ρ31 (b0 + tn ρ26) := by rw [hρ31]; exact sN_i _ _ _ _
  obtain ⟨k34, i35, hm⟩ := ckO_e hm
  refine zx_putF (j := 6) (ρ := sA (ρ31) (a0) 6 (some (b0 + tn ρ26))) C hin tC_0 k34 i35 (by decide) W_1_42 rfl rfl rfl rfl (sA_ok (fun _ => rfl)) dX0_init_66 ?_
  refine zx_aload_n C dX0_init_69 0 rfl ?_
  refine zx_sipush (v := 256) C dX0_init_70 (by decide) ?_
  refine zx_newZ C W_1_86 (by decide) (by decide) dX0_init_73 ?_
  refine zx_mem (fun ρ36 hρ36 => ?_)
  replace hm := ltb_e hm hρ36
  have k37 : tk ρ36 (b0 + tn ρ31) = .inr (2, ((256 : Int32)).toNatClampNeg) := by rw [hρ36]; exact sN_k _ _ _ _
  have i38 : tIn b0 ρ36 (b0 + tn ρ31) := by rw [hρ36]; exact sN_i _ _ _ _
  obtain ⟨k39, i40, hm⟩ := ckO_e hm
  refine zx_putF (j := 7) (ρ := sA (ρ36) (a0) 7 (some (b0 + tn ρ31))) C hin tC_0 k39 i40 (by decide) W_1_43 rfl rfl rfl rfl (sA_ok (fun _ => rfl)) dX0_init_75 ?_
  obtain ⟨rfl, rfl⟩ := ret_e hm
  exact zx_vret C rfl rfl rfl dX0_init_78
abbrev cX0_reset : ByteArray := prog_2_method_2_code
def yX0_reset : MethodName := ⟨"SyncTree$Disk", "reset", "(I)V"⟩
theorem Y_X0_reset : tY yX0_reset cX0_reset 3 none 1 := ⟨W_2_104, W_1_2, ⟨by decide +kernel, by decide +kernel⟩, by decide +kernel⟩
theorem dX0_reset_0 : decode cX0_reset 0 = .ok (.iconst 0, 1) := by decide +kernel
theorem dX0_reset_1 : decode cX0_reset 1 = .ok (.istore_n 2, 1) := by decide +kernel
theorem dX0_reset_2 : decode cX0_reset 2 = .ok (.iload_n 2, 1) := by decide +kernel
theorem dX0_reset_3 : decode cX0_reset 3 = .ok (.aload_n 0, 1) := by decide +kernel
theorem dX0_reset_4 : decode cX0_reset 4 = .ok (.getfield 40, 3) := by decide +kernel
theorem dX0_reset_7 : decode cX0_reset 7 = .ok (.if_icmp .ge 30, 3) := by decide +kernel
theorem dX0_reset_10 : decode cX0_reset 10 = .ok (.aload_n 0, 1) := by decide +kernel
theorem dX0_reset_11 : decode cX0_reset 11 = .ok (.getfield 9, 3) := by decide +kernel
theorem dX0_reset_14 : decode cX0_reset 14 = .ok (.iload_n 2, 1) := by decide +kernel
theorem dX0_reset_15 : decode cX0_reset 15 = .ok (.iconst 0, 1) := by decide +kernel
theorem dX0_reset_16 : decode cX0_reset 16 = .ok (.iastore, 1) := by decide +kernel
theorem dX0_reset_17 : decode cX0_reset 17 = .ok (.aload_n 0, 1) := by decide +kernel
theorem dX0_reset_18 : decode cX0_reset 18 = .ok (.getfield 21, 3) := by decide +kernel
theorem dX0_reset_21 : decode cX0_reset 21 = .ok (.iload_n 2, 1) := by decide +kernel
theorem dX0_reset_22 : decode cX0_reset 22 = .ok (.iconst 0, 1) := by decide +kernel
theorem dX0_reset_23 : decode cX0_reset 23 = .ok (.iastore, 1) := by decide +kernel
theorem dX0_reset_24 : decode cX0_reset 24 = .ok (.aload_n 0, 1) := by decide +kernel
theorem dX0_reset_25 : decode cX0_reset 25 = .ok (.getfield 24, 3) := by decide +kernel
theorem dX0_reset_28 : decode cX0_reset 28 = .ok (.iload_n 2, 1) := by decide +kernel
theorem dX0_reset_29 : decode cX0_reset 29 = .ok (.iconst 0, 1) := by decide +kernel
theorem dX0_reset_30 : decode cX0_reset 30 = .ok (.iastore, 1) := by decide +kernel
theorem dX0_reset_31 : decode cX0_reset 31 = .ok (.iinc 2 1, 3) := by decide +kernel
theorem dX0_reset_34 : decode cX0_reset 34 = .ok (.goto (-32), 3) := by decide +kernel
theorem dX0_reset_37 : decode cX0_reset 37 = .ok (.aload_n 0, 1) := by decide +kernel
theorem dX0_reset_38 : decode cX0_reset 38 = .ok (.iconst 0, 1) := by decide +kernel
theorem dX0_reset_39 : decode cX0_reset 39 = .ok (.iload_n 1, 1) := by decide +kernel
theorem dX0_reset_40 : decode cX0_reset 40 = .ok (.sipush 6130, 3) := by decide +kernel
theorem dX0_reset_43 : decode cX0_reset 43 = .ok (.invokestatic 44, 3) := by decide +kernel
theorem dX0_reset_46 : decode cX0_reset 46 = .ok (.invokestatic 50, 3) := by decide +kernel
theorem dX0_reset_49 : decode cX0_reset 49 = .ok (.putfield 40, 3) := by decide +kernel
theorem dX0_reset_52 : decode cX0_reset 52 = .ok (.aload_n 0, 1) := by decide +kernel
theorem dX0_reset_53 : decode cX0_reset 53 = .ok (.iconst 0, 1) := by decide +kernel
theorem dX0_reset_54 : decode cX0_reset 54 = .ok (.putfield 53, 3) := by decide +kernel
theorem dX0_reset_57 : decode cX0_reset 57 = .ok (.aload_n 0, 1) := by decide +kernel
theorem dX0_reset_58 : decode cX0_reset 58 = .ok (.iconst 0, 1) := by decide +kernel
theorem dX0_reset_59 : decode cX0_reset 59 = .ok (.putfield 56, 3) := by decide +kernel
theorem dX0_reset_62 : decode cX0_reset 62 = .ok (.aload_n 0, 1) := by decide +kernel
theorem dX0_reset_63 : decode cX0_reset 63 = .ok (.iconst 0, 1) := by decide +kernel
theorem dX0_reset_64 : decode cX0_reset 64 = .ok (.putfield 59, 3) := by decide +kernel
theorem dX0_reset_67 : decode cX0_reset 67 = .ok (.aload_n 0, 1) := by decide +kernel
theorem dX0_reset_68 : decode cX0_reset 68 = .ok (.iconst 0, 1) := by decide +kernel
theorem dX0_reset_69 : decode cX0_reset 69 = .ok (.putfield 62, 3) := by decide +kernel
theorem dX0_reset_72 : decode cX0_reset 72 = .ok (.aload_n 0, 1) := by decide +kernel
theorem dX0_reset_73 : decode cX0_reset 73 = .ok (.iconst (-1), 1) := by decide +kernel
theorem dX0_reset_74 : decode cX0_reset 74 = .ok (.putfield 65, 3) := by decide +kernel
theorem dX0_reset_77 : decode cX0_reset 77 = .ok (.aload_n 0, 1) := by decide +kernel
theorem dX0_reset_78 : decode cX0_reset 78 = .ok (.iconst 1, 1) := by decide +kernel
theorem dX0_reset_79 : decode cX0_reset 79 = .ok (.putfield 68, 3) := by decide +kernel
theorem dX0_reset_82 : decode cX0_reset 82 = .ok (.return_, 1) := by decide +kernel
set_option maxRecDepth 100000 in
set_option maxHeartbeats 1000000 in
theorem l_X0_reset_2 {p : Program} {l : Launch} {e : Env} {s : State} {m : MethodId} {args : Array Value} {below : List Frame} {meth : Method} {c : Code} {D : va_G} {aC : Nat → ClassId} {b0 fu : Nat} {σ0 τ : tM} {v : Unit}  (C : tCx p l s m args meth c yX0_reset.cls cX0_reset 3 none D aC b0 σ0) (htab : ∀ x ∈ c.exceptionTable.toList, False) (hin : meth.name = yX0_reset.name)  : ∀ (n : Nat) (x0 : Nat) (x1 : Int32) (x2 : Int32) (σ : tM), L_X0_reset_2 b0 fu  n x0 x1 x2 σ = some (v, τ) → tX p l e s m args below meth c 3 1 21 D aC b0 σ0 (.inl none) τ 2 [(0, .ref (x0)), (1, .int (x1)), (2, .int (x2))] [] σ := by
  intro n
  induction n with
  | zero => intro x0 x1 x2 σ hm; unfold L_X0_reset_2 at hm; cases hm
  | succ n ih =>
    intro x0 x1 x2 σ hm
    unfold L_X0_reset_2 at hm
    obtain ⟨rc2, hrc⟩ : ∃ z, z = L_X0_reset_2 b0 fu  n := ⟨_, rfl⟩
    replace hm := ltb_e hm hrc
    rw [← hrc] at ih
    have hrc2 := ih
    clear ih hrc
    refine zx_iload_n C dX0_reset_2 2 rfl ?_
    refine zx_aload_n C dX0_reset_3 0 rfl ?_
    obtain ⟨k1, i2, hm⟩ := ckO_e hm
    refine zx_get (j := 8) C tC_0 k1 i2 ⟨by decide, Or.inl W_1_44⟩ dX0_reset_4 (.int (tI (σ) (x0) 8)) rfl ?_
    refine zx_icmp_ge C 37 dX0_reset_7 (by decide) (fun c3 => ?_) (fun c3 => ?_)
    · replace hm := ip_e hm c3
      refine zx_aload_n C dX0_reset_37 0 rfl ?_
      refine zx_iconst (v := 0) C dX0_reset_38 (by decide) ?_
      refine zx_iload_n C dX0_reset_39 1 rfl ?_
      refine zx_sipush (v := 6130) C dX0_reset_40 (by decide) ?_
      refine zx_min C W_2_105 W_2_106 W_1_10 W_2_107 (by decide) (by decide) (Nat.le_of_ble_eq_true rfl) dX0_reset_43 ?_
      refine zx_max C W_2_108 W_2_109 W_1_10 W_2_110 (by decide) (by decide) (Nat.le_of_ble_eq_true rfl) dX0_reset_46 ?_
      refine zx_put (j := 8) (ρ := sI (σ) (x0) 8 ((if ((0 : Int32)) < ((if ((6130 : Int32)) < (x1) then (6130) else (x1) : Int32)) then ((if ((6130 : Int32)) < (x1) then (6130) else (x1) : Int32)) else (0) : Int32))) C tC_0 k1 i2 ⟨by decide, Or.inl W_1_44⟩ rfl rfl rfl (sI_ok (fun _ => rfl)) dX0_reset_49 ?_
      refine zx_aload_n C dX0_reset_52 0 rfl ?_
      refine zx_iconst (v := 0) C dX0_reset_53 (by decide) ?_
      refine zx_put (j := 9) (ρ := sI (sI (σ) (x0) 8 ((if ((0 : Int32)) < ((if ((6130 : Int32)) < (x1) then (6130) else (x1) : Int32)) then ((if ((6130 : Int32)) < (x1) then (6130) else (x1) : Int32)) else (0) : Int32))) (x0) 9 (0)) C tC_0 k1 i2 ⟨by decide, Or.inl W_1_45⟩ rfl rfl rfl (sI_ok (fun _ => rfl)) dX0_reset_54 ?_
      refine zx_aload_n C dX0_reset_57 0 rfl ?_
      refine zx_iconst (v := 0) C dX0_reset_58 (by decide) ?_
      refine zx_put (j := 10) (ρ := sI (sI (sI (σ) (x0) 8 ((if ((0 : Int32)) < ((if ((6130 : Int32)) < (x1) then (6130) else (x1) : Int32)) then ((if ((6130 : Int32)) < (x1) then (6130) else (x1) : Int32)) else (0) : Int32))) (x0) 9 (0)) (x0) 10 (0)) C tC_0 k1 i2 ⟨by decide, Or.inl W_1_46⟩ rfl rfl rfl (sI_ok (fun _ => rfl)) dX0_reset_59 ?_
      refine zx_aload_n C dX0_reset_62 0 rfl ?_
      refine zx_iconst (v := 0) C dX0_reset_63 (by decide) ?_
      refine zx_put (j := 11) (ρ := sI (sI (sI (sI (σ) (x0) 8 ((if ((0 : Int32)) < ((if ((6130 : Int32)) < (x1) then (6130) else (x1) : Int32)) then ((if ((6130 : Int32)) < (x1) then (6130) else (x1) : Int32)) else (0) : Int32))) (x0) 9 (0)) (x0) 10 (0)) (x0) 11 (0)) C tC_0 k1 i2 ⟨by decide, Or.inl W_1_48⟩ rfl rfl rfl (sI_ok (fun _ => rfl)) dX0_reset_64 ?_
      refine zx_aload_n C dX0_reset_67 0 rfl ?_
      refine zx_iconst (v := 0) C dX0_reset_68 (by decide) ?_
      refine zx_put (j := 12) (ρ := sI (sI (sI (sI (sI (σ) (x0) 8 ((if ((0 : Int32)) < ((if ((6130 : Int32)) < (x1) then (6130) else (x1) : Int32)) then ((if ((6130 : Int32)) < (x1) then (6130) else (x1) : Int32)) else (0) : Int32))) (x0) 9 (0)) (x0) 10 (0)) (x0) 11 (0)) (x0) 12 (0)) C tC_0 k1 i2 ⟨by decide, Or.inl W_1_49⟩ rfl rfl rfl (sI_ok (fun _ => rfl)) dX0_reset_69 ?_
      refine zx_aload_n C dX0_reset_72 0 rfl ?_
      refine zx_iconst (v := (-1)) C dX0_reset_73 (by decide) ?_
      refine zx_put (j := 13) (ρ := sI (sI (sI (sI (sI (sI (σ) (x0) 8 ((if ((0 : Int32)) < ((if ((6130 : Int32)) < (x1) then (6130) else (x1) : Int32)) then ((if ((6130 : Int32)) < (x1) then (6130) else (x1) : Int32)) else (0) : Int32))) (x0) 9 (0)) (x0) 10 (0)) (x0) 11 (0)) (x0) 12 (0)) (x0) 13 ((-1))) C tC_0 k1 i2 ⟨by decide, Or.inl W_1_50⟩ rfl rfl rfl (sI_ok (fun _ => rfl)) dX0_reset_74 ?_
      refine zx_mem (fun ρ4 hρ4 => ?_)
      replace hm := ltb_e hm hρ4
      have k5 : tk ρ4 (x0) = .inl 0 := by rw [hρ4]; exact k1
      have i6 : tIn b0 ρ4 (x0) := by rw [hρ4]; exact i2
      refine zx_aload_n C dX0_reset_77 0 rfl ?_
      refine zx_iconst (v := 1) C dX0_reset_78 (by decide) ?_
      refine zx_put (j := 14) (ρ := sI (ρ4) (x0) 14 (1)) C tC_0 k5 i6 ⟨by decide, Or.inl W_1_52⟩ rfl rfl rfl (sI_ok (fun _ => rfl)) dX0_reset_79 ?_
      obtain ⟨rfl, rfl⟩ := ret_e hm
      exact zx_vret C rfl rfl rfl dX0_reset_82
    · replace hm := in_e hm c3
      refine zx_aload_n C dX0_reset_10 0 rfl ?_
      obtain ⟨a7, h8, hm⟩ := osm_e hm
      refine zx_get (j := 0) C tC_0 k1 i2 ⟨by decide, Or.inl W_1_36⟩ dX0_reset_11 (.ref a7) (rf_s h8) ?_
      refine zx_iload_n C dX0_reset_14 2 rfl ?_
      refine zx_iconst (v := 0) C dX0_reset_15 (by decide) ?_
      obtain ⟨n11, k9, i10, hm⟩ := ckR_e hm
      obtain ⟨h12, hm⟩ := ckI_e hm
      refine zx_iast C k9 i10 h12 dX0_reset_16 ?_
      refine zx_aload_n C dX0_reset_17 0 rfl ?_
      obtain ⟨a13, h14, hm⟩ := osm_e hm
      refine zx_get (j := 2) C tC_0 k1 i2 ⟨by decide, Or.inl W_1_38⟩ dX0_reset_18 (.ref a13) (rf_s h14) ?_
      refine zx_iload_n C dX0_reset_21 2 rfl ?_
      refine zx_iconst (v := 0) C dX0_reset_22 (by decide) ?_
      obtain ⟨n17, k15, i16, hm⟩ := ckR_e hm
      obtain ⟨h18, hm⟩ := ckI_e hm
      refine zx_iast C k15 i16 h18 dX0_reset_23 ?_
      refine zx_aload_n C dX0_reset_24 0 rfl ?_
      obtain ⟨a19, h20, hm⟩ := osm_e hm
      refine zx_get (j := 3) C tC_0 k1 i2 ⟨by decide, Or.inl W_1_39⟩ dX0_reset_25 (.ref a19) (rf_s h20) ?_
      refine zx_iload_n C dX0_reset_28 2 rfl ?_
      refine zx_iconst (v := 0) C dX0_reset_29 (by decide) ?_
      obtain ⟨n23, k21, i22, hm⟩ := ckR_e hm
      obtain ⟨h24, hm⟩ := ckI_e hm
      refine zx_iast C k21 i22 h24 dX0_reset_30 ?_
      obtain ⟨y25, hy25⟩ : ∃ z : Int32, z = (x2) + Int32.ofInt 1 := ⟨_, rfl⟩
      replace hm := ltb_e hm hy25
      refine zx_iinc C [(2, .int (y25)), (0, .ref (x0)), (1, .int (x1))] dX0_reset_31 2 rfl hy25.symm (by decide) rfl ?_
      refine zx_goto C 2 dX0_reset_34 (by decide) ?_
      exact zx_lv [1, 2, 0] [(0, .ref (x0)), (1, .int (x1)), (2, .int (y25))] rfl (hrc2 _ _ _ _ hm)
set_option maxRecDepth 100000 in
set_option maxHeartbeats 1000000 in
theorem c_X0_reset {l : Launch} {D : va_G} {aC : Nat → ClassId} {b0 fu : Nat} {a0 : Nat} {p0 : Int32} {σ τ : tM} {v : Unit} (hm : m_X0_reset b0 fu a0 p0 σ = some (v, τ)) : tMt l D aC b0 yX0_reset (Cond.code yX0_reset cX0_reset 3 none) 1 21 [.ref (a0), .int (p0)] σ (.inl none) τ := by
  unfold m_X0_reset at hm
  obtain ⟨hg, hm⟩ := grw_e hm
  refine tMt_of (n := 0) rfl (Nat.le_of_ble_eq_true rfl) hg ?_
  intro p e s m below meth c C htab hin
  refine zx_lv [0, 1] [(0, .ref (a0)), (1, .int (p0))] rfl ?_
  refine zx_iconst (v := 0) C dX0_reset_0 (by decide) ?_
  refine zx_istore_n C [(2, .int (0)), (0, .ref (a0)), (1, .int (p0))] dX0_reset_1 rfl (by decide) rfl ?_
  exact zx_lv [1, 2, 0] [(0, .ref (a0)), (1, .int (p0)), (2, .int (0))] rfl (l_X0_reset_2 C htab hin  _ _ _ _ _ hm)
abbrev cX0_demandPower : ByteArray := prog_2_method_3_code
def yX0_demandPower : MethodName := ⟨"SyncTree$Disk", "demandPower", "()V"⟩
theorem Y_X0_demandPower : tY yX0_demandPower cX0_demandPower 1 none 0 := ⟨W_3_115, W_1_2, ⟨by decide +kernel, by decide +kernel⟩, by decide +kernel⟩
theorem dX0_demandPower_0 : decode cX0_demandPower 0 = .ok (.aload_n 0, 1) := by decide +kernel
theorem dX0_demandPower_1 : decode cX0_demandPower 1 = .ok (.getfield 68, 3) := by decide +kernel
theorem dX0_demandPower_4 : decode cX0_demandPower 4 = .ok (.ifCond .ne 13, 3) := by decide +kernel
theorem dX0_demandPower_7 : decode cX0_demandPower 7 = .ok (.new 72, 3) := by decide +kernel
theorem dX0_demandPower_10 : decode cX0_demandPower 10 = .ok (.dup, 1) := by decide +kernel
theorem dX0_demandPower_11 : decode cX0_demandPower 11 = .ok (.ldc 74, 2) := by decide +kernel
theorem dX0_demandPower_13 : decode cX0_demandPower 13 = .ok (.invokespecial 76, 3) := by decide +kernel
theorem dX0_demandPower_16 : decode cX0_demandPower 16 = .ok (.athrow, 1) := by decide +kernel
theorem dX0_demandPower_17 : decode cX0_demandPower 17 = .ok (.return_, 1) := by decide +kernel
set_option maxRecDepth 100000 in
set_option maxHeartbeats 1000000 in
theorem c_X0_demandPower {l : Launch} {D : va_G} {aC : Nat → ClassId} {b0 fu : Nat} {a0 : Nat} {σ τ : tM} {v : (Unit) ⊕ Unit} (hm : m_X0_demandPower b0 fu a0 σ = some (v, τ)) : tMt l D aC b0 yX0_demandPower (Cond.code yX0_demandPower cX0_demandPower 1 none) 6 90 [.ref (a0)] σ (rxV "java/lang/IllegalStateException" v) τ := by
  unfold m_X0_demandPower at hm
  obtain ⟨hg, hm⟩ := grw_e hm
  refine tMt_of (n := 0) rfl (Nat.le_of_ble_eq_true rfl) hg ?_
  intro p e s m below meth c C htab hin
  refine zx_lv [0] [(0, .ref (a0))] rfl ?_
  refine zx_aload_n C dX0_demandPower_0 0 rfl ?_
  obtain ⟨k1, i2, hm⟩ := ckO_e hm
  refine zx_get (j := 14) C tC_0 k1 i2 ⟨by decide, Or.inl W_1_52⟩ dX0_demandPower_1 (.int (tI (σ) (a0) 14)) rfl ?_
  refine zx_if_ne C 17 dX0_demandPower_4 (by decide) (fun c3 => ?_) (fun c3 => ?_)
  · replace hm := in_e hm c3
    obtain ⟨rfl, rfl⟩ := ret_e hm
    exact zx_vret C rfl rfl rfl dX0_demandPower_17
  · replace hm := ip_e hm c3
    obtain ⟨rfl, rfl⟩ := ret_e hm
    exact zx_throw C htab (Or.inl ⟨rfl, rfl⟩) dX0_demandPower_7 dX0_demandPower_10 dX0_demandPower_11 dX0_demandPower_13 dX0_demandPower_16 rfl rfl (by decide) (by decide) (Nat.le_of_ble_eq_true rfl)
abbrev cX0_losePower : ByteArray := prog_2_method_5_code
def yX0_losePower : MethodName := ⟨"SyncTree$Disk", "losePower", "()V"⟩
theorem Y_X0_losePower : tY yX0_losePower cX0_losePower 2 none 0 := ⟨W_3_206, W_1_2, ⟨by decide +kernel, by decide +kernel⟩, by decide +kernel⟩
theorem dX0_losePower_0 : decode cX0_losePower 0 = .ok (.aload_n 0, 1) := by decide +kernel
theorem dX0_losePower_1 : decode cX0_losePower 1 = .ok (.iconst 0, 1) := by decide +kernel
theorem dX0_losePower_2 : decode cX0_losePower 2 = .ok (.putfield 68, 3) := by decide +kernel
theorem dX0_losePower_5 : decode cX0_losePower 5 = .ok (.aload_n 0, 1) := by decide +kernel
theorem dX0_losePower_6 : decode cX0_losePower 6 = .ok (.iconst (-1), 1) := by decide +kernel
theorem dX0_losePower_7 : decode cX0_losePower 7 = .ok (.putfield 65, 3) := by decide +kernel
theorem dX0_losePower_10 : decode cX0_losePower 10 = .ok (.iconst 0, 1) := by decide +kernel
theorem dX0_losePower_11 : decode cX0_losePower 11 = .ok (.istore_n 1, 1) := by decide +kernel
theorem dX0_losePower_12 : decode cX0_losePower 12 = .ok (.iload_n 1, 1) := by decide +kernel
theorem dX0_losePower_13 : decode cX0_losePower 13 = .ok (.aload_n 0, 1) := by decide +kernel
theorem dX0_losePower_14 : decode cX0_losePower 14 = .ok (.getfield 56, 3) := by decide +kernel
theorem dX0_losePower_17 : decode cX0_losePower 17 = .ok (.if_icmp .ge 30, 3) := by decide +kernel
theorem dX0_losePower_20 : decode cX0_losePower 20 = .ok (.aload_n 0, 1) := by decide +kernel
theorem dX0_losePower_21 : decode cX0_losePower 21 = .ok (.getfield 24, 3) := by decide +kernel
theorem dX0_losePower_24 : decode cX0_losePower 24 = .ok (.aload_n 0, 1) := by decide +kernel
theorem dX0_losePower_25 : decode cX0_losePower 25 = .ok (.getfield 27, 3) := by decide +kernel
theorem dX0_losePower_28 : decode cX0_losePower 28 = .ok (.aload_n 0, 1) := by decide +kernel
theorem dX0_losePower_29 : decode cX0_losePower 29 = .ok (.getfield 53, 3) := by decide +kernel
theorem dX0_losePower_32 : decode cX0_losePower 32 = .ok (.iload_n 1, 1) := by decide +kernel
theorem dX0_losePower_33 : decode cX0_losePower 33 = .ok (.iadd, 1) := by decide +kernel
theorem dX0_losePower_34 : decode cX0_losePower 34 = .ok (.sipush 256, 3) := by decide +kernel
theorem dX0_losePower_37 : decode cX0_losePower 37 = .ok (.irem, 1) := by decide +kernel
theorem dX0_losePower_38 : decode cX0_losePower 38 = .ok (.iaload, 1) := by decide +kernel
theorem dX0_losePower_39 : decode cX0_losePower 39 = .ok (.iconst 0, 1) := by decide +kernel
theorem dX0_losePower_40 : decode cX0_losePower 40 = .ok (.iastore, 1) := by decide +kernel
theorem dX0_losePower_41 : decode cX0_losePower 41 = .ok (.iinc 1 1, 3) := by decide +kernel
theorem dX0_losePower_44 : decode cX0_losePower 44 = .ok (.goto (-32), 3) := by decide +kernel
theorem dX0_losePower_47 : decode cX0_losePower 47 = .ok (.return_, 1) := by decide +kernel
set_option maxRecDepth 100000 in
set_option maxHeartbeats 1000000 in
theorem l_X0_losePower_12 {p : Program} {l : Launch} {e : Env} {s : State} {m : MethodId} {args : Array Value} {below : List Frame} {meth : Method} {c : Code} {D : va_G} {aC : Nat → ClassId} {b0 fu : Nat} {σ0 τ : tM} {v : Unit}  (C : tCx p l s m args meth c yX0_losePower.cls cX0_losePower 2 none D aC b0 σ0) (htab : ∀ x ∈ c.exceptionTable.toList, False) (hin : meth.name = yX0_losePower.name)  : ∀ (n : Nat) (x0 : Nat) (x1 : Int32) (σ : tM), L_X0_losePower_12 b0 fu  n x0 x1 σ = some (v, τ) → tX p l e s m args below meth c 2 0 0 D aC b0 σ0 (.inl none) τ 12 [(0, .ref (x0)), (1, .int (x1))] [] σ := by
  intro n
  induction n with
  | zero => intro x0 x1 σ hm; unfold L_X0_losePower_12 at hm; cases hm
  | succ n ih =>
    intro x0 x1 σ hm
    unfold L_X0_losePower_12 at hm
    obtain ⟨rc12, hrc⟩ : ∃ z, z = L_X0_losePower_12 b0 fu  n := ⟨_, rfl⟩
    replace hm := ltb_e hm hrc
    rw [← hrc] at ih
    have hrc12 := ih
    clear ih hrc
    refine zx_iload_n C dX0_losePower_12 1 rfl ?_
    refine zx_aload_n C dX0_losePower_13 0 rfl ?_
    obtain ⟨k3, i4, hm⟩ := ckO_e hm
    refine zx_get (j := 10) C tC_0 k3 i4 ⟨by decide, Or.inl W_1_46⟩ dX0_losePower_14 (.int (tI (σ) (x0) 10)) rfl ?_
    refine zx_icmp_ge C 47 dX0_losePower_17 (by decide) (fun c5 => ?_) (fun c5 => ?_)
    · replace hm := ip_e hm c5
      obtain ⟨rfl, rfl⟩ := ret_e hm
      exact zx_vret C rfl rfl rfl dX0_losePower_47
    · replace hm := in_e hm c5
      refine zx_aload_n C dX0_losePower_20 0 rfl ?_
      obtain ⟨a6, h7, hm⟩ := osm_e hm
      refine zx_get (j := 3) C tC_0 k3 i4 ⟨by decide, Or.inl W_1_39⟩ dX0_losePower_21 (.ref a6) (rf_s h7) ?_
      refine zx_aload_n C dX0_losePower_24 0 rfl ?_
      obtain ⟨a8, h9, hm⟩ := osm_e hm
      refine zx_get (j := 4) C tC_0 k3 i4 ⟨by decide, Or.inl W_1_40⟩ dX0_losePower_25 (.ref a8) (rf_s h9) ?_
      refine zx_aload_n C dX0_losePower_28 0 rfl ?_
      refine zx_get (j := 9) C tC_0 k3 i4 ⟨by decide, Or.inl W_1_45⟩ dX0_losePower_29 (.int (tI (σ) (x0) 9)) rfl ?_
      refine zx_iload_n C dX0_losePower_32 1 rfl ?_
      refine zx_iadd C dX0_losePower_33 ?_
      refine zx_sipush (v := 256) C dX0_losePower_34 (by decide) ?_
      refine zx_irem C dX0_losePower_37 (by decide) ?_
      obtain ⟨n12, k10, i11, hm⟩ := ckR_e hm
      obtain ⟨h13, hm⟩ := ckI_e hm
      refine zx_iald C k10 i11 h13 dX0_losePower_38 ?_
      refine zx_iconst (v := 0) C dX0_losePower_39 (by decide) ?_
      obtain ⟨n16, k14, i15, hm⟩ := ckR_e hm
      obtain ⟨h17, hm⟩ := ckI_e hm
      refine zx_iast C k14 i15 h17 dX0_losePower_40 ?_
      obtain ⟨y18, hy18⟩ : ∃ z : Int32, z = (x1) + Int32.ofInt 1 := ⟨_, rfl⟩
      replace hm := ltb_e hm hy18
      refine zx_iinc C [(1, .int (y18)), (0, .ref (x0))] dX0_losePower_41 1 rfl hy18.symm (by decide) rfl ?_
      refine zx_goto C 12 dX0_losePower_44 (by decide) ?_
      exact zx_lv [1, 0] [(0, .ref (x0)), (1, .int (y18))] rfl (hrc12 _ _ _ hm)
set_option maxRecDepth 100000 in
set_option maxHeartbeats 1000000 in
theorem c_X0_losePower {l : Launch} {D : va_G} {aC : Nat → ClassId} {b0 fu : Nat} {a0 : Nat} {σ τ : tM} {v : Unit} (hm : m_X0_losePower b0 fu a0 σ = some (v, τ)) : tMt l D aC b0 yX0_losePower (Cond.code yX0_losePower cX0_losePower 2 none) 0 0 [.ref (a0)] σ (.inl none) τ := by
  unfold m_X0_losePower at hm
  obtain ⟨hg, hm⟩ := grw_e hm
  refine tMt_of (n := 0) rfl (Nat.le_of_ble_eq_true rfl) hg ?_
  intro p e s m below meth c C htab hin
  refine zx_lv [0] [(0, .ref (a0))] rfl ?_
  refine zx_aload_n C dX0_losePower_0 0 rfl ?_
  refine zx_iconst (v := 0) C dX0_losePower_1 (by decide) ?_
  obtain ⟨k1, i2, hm⟩ := ckO_e hm
  refine zx_put (j := 14) (ρ := sI (σ) (a0) 14 (0)) C tC_0 k1 i2 ⟨by decide, Or.inl W_1_52⟩ rfl rfl rfl (sI_ok (fun _ => rfl)) dX0_losePower_2 ?_
  refine zx_aload_n C dX0_losePower_5 0 rfl ?_
  refine zx_iconst (v := (-1)) C dX0_losePower_6 (by decide) ?_
  refine zx_put (j := 13) (ρ := sI (sI (σ) (a0) 14 (0)) (a0) 13 ((-1))) C tC_0 k1 i2 ⟨by decide, Or.inl W_1_50⟩ rfl rfl rfl (sI_ok (fun _ => rfl)) dX0_losePower_7 ?_
  refine zx_iconst (v := 0) C dX0_losePower_10 (by decide) ?_
  refine zx_istore_n C [(1, .int (0)), (0, .ref (a0))] dX0_losePower_11 rfl (by decide) rfl ?_
  exact zx_lv [1, 0] [(0, .ref (a0)), (1, .int (0))] rfl (l_X0_losePower_12 C htab hin  _ _ _ _ hm)
abbrev cX0_keep : ByteArray := prog_2_method_10_code
def yX0_keep : MethodName := ⟨"SyncTree$Disk", "keep", "(I)V"⟩
theorem Y_X0_keep : tY yX0_keep cX0_keep 4 none 1 := ⟨W_3_215, W_1_2, ⟨by decide +kernel, by decide +kernel⟩, by decide +kernel⟩
theorem dX0_keep_0 : decode cX0_keep 0 = .ok (.aload_n 0, 1) := by decide +kernel
theorem dX0_keep_1 : decode cX0_keep 1 = .ok (.getfield 27, 3) := by decide +kernel
theorem dX0_keep_4 : decode cX0_keep 4 = .ok (.iload_n 1, 1) := by decide +kernel
theorem dX0_keep_5 : decode cX0_keep 5 = .ok (.iaload, 1) := by decide +kernel
theorem dX0_keep_6 : decode cX0_keep 6 = .ok (.istore_n 2, 1) := by decide +kernel
theorem dX0_keep_7 : decode cX0_keep 7 = .ok (.aload_n 0, 1) := by decide +kernel
theorem dX0_keep_8 : decode cX0_keep 8 = .ok (.getfield 9, 3) := by decide +kernel
theorem dX0_keep_11 : decode cX0_keep 11 = .ok (.iload_n 2, 1) := by decide +kernel
theorem dX0_keep_12 : decode cX0_keep 12 = .ok (.aload_n 0, 1) := by decide +kernel
theorem dX0_keep_13 : decode cX0_keep 13 = .ok (.getfield 30, 3) := by decide +kernel
theorem dX0_keep_16 : decode cX0_keep 16 = .ok (.iload_n 1, 1) := by decide +kernel
theorem dX0_keep_17 : decode cX0_keep 17 = .ok (.iaload, 1) := by decide +kernel
theorem dX0_keep_18 : decode cX0_keep 18 = .ok (.iastore, 1) := by decide +kernel
theorem dX0_keep_19 : decode cX0_keep 19 = .ok (.aload_n 0, 1) := by decide +kernel
theorem dX0_keep_20 : decode cX0_keep 20 = .ok (.getfield 36, 3) := by decide +kernel
theorem dX0_keep_23 : decode cX0_keep 23 = .ok (.iload_n 1, 1) := by decide +kernel
theorem dX0_keep_24 : decode cX0_keep 24 = .ok (.baload, 1) := by decide +kernel
theorem dX0_keep_25 : decode cX0_keep 25 = .ok (.ifCond .eq 29, 3) := by decide +kernel
theorem dX0_keep_28 : decode cX0_keep 28 = .ok (.aload_n 0, 1) := by decide +kernel
theorem dX0_keep_29 : decode cX0_keep 29 = .ok (.getfield 17, 3) := by decide +kernel
theorem dX0_keep_32 : decode cX0_keep 32 = .ok (.iload_n 2, 1) := by decide +kernel
theorem dX0_keep_33 : decode cX0_keep 33 = .ok (.aaload, 1) := by decide +kernel
theorem dX0_keep_34 : decode cX0_keep 34 = .ok (.astore_n 3, 1) := by decide +kernel
theorem dX0_keep_35 : decode cX0_keep 35 = .ok (.aload_n 0, 1) := by decide +kernel
theorem dX0_keep_36 : decode cX0_keep 36 = .ok (.getfield 17, 3) := by decide +kernel
theorem dX0_keep_39 : decode cX0_keep 39 = .ok (.iload_n 2, 1) := by decide +kernel
theorem dX0_keep_40 : decode cX0_keep 40 = .ok (.aload_n 0, 1) := by decide +kernel
theorem dX0_keep_41 : decode cX0_keep 41 = .ok (.getfield 33, 3) := by decide +kernel
theorem dX0_keep_44 : decode cX0_keep 44 = .ok (.iload_n 1, 1) := by decide +kernel
theorem dX0_keep_45 : decode cX0_keep 45 = .ok (.aaload, 1) := by decide +kernel
theorem dX0_keep_46 : decode cX0_keep 46 = .ok (.aastore, 1) := by decide +kernel
theorem dX0_keep_47 : decode cX0_keep 47 = .ok (.aload_n 0, 1) := by decide +kernel
theorem dX0_keep_48 : decode cX0_keep 48 = .ok (.getfield 33, 3) := by decide +kernel
theorem dX0_keep_51 : decode cX0_keep 51 = .ok (.iload_n 1, 1) := by decide +kernel
theorem dX0_keep_52 : decode cX0_keep 52 = .ok (.aload_n 3, 1) := by decide +kernel
theorem dX0_keep_53 : decode cX0_keep 53 = .ok (.aastore, 1) := by decide +kernel
theorem dX0_keep_54 : decode cX0_keep 54 = .ok (.return_, 1) := by decide +kernel
set_option maxRecDepth 100000 in
set_option maxHeartbeats 1000000 in
theorem j_X0_keep_54 {p : Program} {l : Launch} {e : Env} {s : State} {m : MethodId} {args : Array Value} {below : List Frame} {meth : Method} {c : Code} {D : va_G} {aC : Nat → ClassId} {b0 fu : Nat} {σ0 τ : tM} {v : Unit}  (C : tCx p l s m args meth c yX0_keep.cls cX0_keep 4 none D aC b0 σ0) (htab : ∀ x ∈ c.exceptionTable.toList, False) (hin : meth.name = yX0_keep.name)   {σ : tM} (hm : J_X0_keep_54 b0 fu   σ = some (v, τ)) : tX p l e s m args below meth c 4 0 0 D aC b0 σ0 (.inl none) τ 54 [] [] σ := by
  unfold J_X0_keep_54 at hm
  obtain ⟨rfl, rfl⟩ := ret_e hm
  exact zx_vret C rfl rfl rfl dX0_keep_54
set_option maxRecDepth 100000 in
set_option maxHeartbeats 1000000 in
theorem c_X0_keep {l : Launch} {D : va_G} {aC : Nat → ClassId} {b0 fu : Nat} {a0 : Nat} {p0 : Int32} {σ τ : tM} {v : Unit} (hm : m_X0_keep b0 fu a0 p0 σ = some (v, τ)) : tMt l D aC b0 yX0_keep (Cond.code yX0_keep cX0_keep 4 none) 0 0 [.ref (a0), .int (p0)] σ (.inl none) τ := by
  unfold m_X0_keep at hm
  obtain ⟨hg, hm⟩ := grw_e hm
  refine tMt_of (n := 0) rfl (Nat.le_of_ble_eq_true rfl) hg ?_
  intro p e s m below meth c C htab hin
  refine zx_lv [0, 1] [(0, .ref (a0)), (1, .int (p0))] rfl ?_
  refine zx_aload_n C dX0_keep_0 0 rfl ?_
  obtain ⟨k1, i2, hm⟩ := ckO_e hm
  obtain ⟨a3, h4, hm⟩ := osm_e hm
  refine zx_get (j := 4) C tC_0 k1 i2 ⟨by decide, Or.inl W_1_40⟩ dX0_keep_1 (.ref a3) (rf_s h4) ?_
  refine zx_iload_n C dX0_keep_4 1 rfl ?_
  obtain ⟨n7, k5, i6, hm⟩ := ckR_e hm
  obtain ⟨h8, hm⟩ := ckI_e hm
  refine zx_iald C k5 i6 h8 dX0_keep_5 ?_
  refine zx_topi (fun y9 hy9 => ?_)
  replace hm := ltb_e hm hy9
  refine zx_istore_n C [(2, .int (y9)), (0, .ref (a0)), (1, .int (p0))] dX0_keep_6 rfl (by decide) rfl ?_
  refine zx_aload_n C dX0_keep_7 1 rfl ?_
  obtain ⟨a10, h11, hm⟩ := osm_e hm
  refine zx_get (j := 0) C tC_0 k1 i2 ⟨by decide, Or.inl W_1_36⟩ dX0_keep_8 (.ref a10) (rf_s h11) ?_
  refine zx_iload_n C dX0_keep_11 0 rfl ?_
  refine zx_aload_n C dX0_keep_12 1 rfl ?_
  obtain ⟨a12, h13, hm⟩ := osm_e hm
  refine zx_get (j := 5) C tC_0 k1 i2 ⟨by decide, Or.inl W_1_41⟩ dX0_keep_13 (.ref a12) (rf_s h13) ?_
  refine zx_iload_n C dX0_keep_16 2 rfl ?_
  obtain ⟨n16, k14, i15, hm⟩ := ckR_e hm
  obtain ⟨h17, hm⟩ := ckI_e hm
  refine zx_iald C k14 i15 h17 dX0_keep_17 ?_
  obtain ⟨n20, k18, i19, hm⟩ := ckR_e hm
  obtain ⟨h21, hm⟩ := ckI_e hm
  refine zx_iast C k18 i19 h21 dX0_keep_18 ?_
  refine zx_aload_n C dX0_keep_19 1 rfl ?_
  obtain ⟨a22, h23, hm⟩ := osm_e hm
  refine zx_get (j := 7) C tC_0 k1 i2 ⟨by decide, Or.inl W_1_43⟩ dX0_keep_20 (.ref a22) (rf_s h23) ?_
  refine zx_iload_n C dX0_keep_23 2 rfl ?_
  obtain ⟨n26, k24, i25, hm⟩ := ckR_e hm
  obtain ⟨h27, hm⟩ := ckI_e hm
  refine zx_zald C k24 i25 h27 dX0_keep_24 ?_
  refine zx_if_eq C 54 dX0_keep_25 (by decide) (fun c28 => ?_) (fun c28 => ?_)
  · replace hm := ip_e hm c28
    exact zx_lv [] [] rfl (j_X0_keep_54 C htab hin    hm)
  · replace hm := in_e hm c28
    refine zx_aload_n C dX0_keep_28 1 rfl ?_
    obtain ⟨a29, h30, hm⟩ := osm_e hm
    refine zx_get (j := 1) C tC_0 k1 i2 ⟨by decide, Or.inl W_1_37⟩ dX0_keep_29 (.ref a29) (rf_s h30) ?_
    refine zx_iload_n C dX0_keep_32 0 rfl ?_
    obtain ⟨n33, k31, i32, hm⟩ := ckR_e hm
    obtain ⟨h34, hm⟩ := ckI_e hm
    rcases omt_e hm with ⟨a35, h36, hm⟩ | ⟨h36, hm⟩
    · refine zx_aald C k31 i32 h34 dX0_keep_33 (.ref a35) (rf_s h36) ?_
      refine zx_astore_n C [(3, .ref (a35)), (2, .int (y9)), (0, .ref (a0)), (1, .int (p0))] dX0_keep_34 rfl (by decide) rfl ?_
      refine zx_aload_n C dX0_keep_35 2 rfl ?_
      obtain ⟨a37, h38, hm⟩ := osm_e hm
      refine zx_get (j := 1) C tC_0 k1 i2 ⟨by decide, Or.inl W_1_37⟩ dX0_keep_36 (.ref a37) (rf_s h38) ?_
      refine zx_iload_n C dX0_keep_39 1 rfl ?_
      refine zx_aload_n C dX0_keep_40 2 rfl ?_
      obtain ⟨a39, h40, hm⟩ := osm_e hm
      refine zx_get (j := 6) C tC_0 k1 i2 ⟨by decide, Or.inl W_1_42⟩ dX0_keep_41 (.ref a39) (rf_s h40) ?_
      refine zx_iload_n C dX0_keep_44 3 rfl ?_
      obtain ⟨n43, k41, i42, hm⟩ := ckR_e hm
      obtain ⟨h44, hm⟩ := ckI_e hm
      rcases omt_e hm with ⟨a45, h46, hm⟩ | ⟨h46, hm⟩
      · refine zx_aald C k41 i42 h44 dX0_keep_45 (.ref a45) (rf_s h46) ?_
        obtain ⟨n49, k47, i48, hm⟩ := ckR_e hm
        obtain ⟨h50, hm⟩ := ckI_e hm
        obtain ⟨k51, i52, hm⟩ := ckO_e hm
        refine zx_ast C k47 i48 k51 i52 h50 dX0_keep_46 ?_
        refine zx_aload_n C dX0_keep_47 2 rfl ?_
        obtain ⟨a53, h54, hm⟩ := osm_e hm
        refine zx_get (j := 6) C tC_0 k1 i2 ⟨by decide, Or.inl W_1_42⟩ dX0_keep_48 (.ref a53) (rf_s h54) ?_
        refine zx_iload_n C dX0_keep_51 3 rfl ?_
        refine zx_aload_n C dX0_keep_52 0 rfl ?_
        obtain ⟨n57, k55, i56, hm⟩ := ckR_e hm
        obtain ⟨h58, hm⟩ := ckI_e hm
        obtain ⟨k59, i60, hm⟩ := ckO_e hm
        refine zx_ast C k55 i56 k59 i60 h58 dX0_keep_53 ?_
        exact zx_lv [] [] rfl (j_X0_keep_54 C htab hin    hm)
      · refine zx_aald C k41 i42 h44 dX0_keep_45 .null (rf_n h46) ?_
        obtain ⟨n63, k61, i62, hm⟩ := ckR_e hm
        obtain ⟨h64, hm⟩ := ckI_e hm
        refine zx_astN C k61 i62 h64 dX0_keep_46 ?_
        refine zx_aload_n C dX0_keep_47 2 rfl ?_
        obtain ⟨a65, h66, hm⟩ := osm_e hm
        refine zx_get (j := 6) C tC_0 k1 i2 ⟨by decide, Or.inl W_1_42⟩ dX0_keep_48 (.ref a65) (rf_s h66) ?_
        refine zx_iload_n C dX0_keep_51 3 rfl ?_
        refine zx_aload_n C dX0_keep_52 0 rfl ?_
        obtain ⟨n69, k67, i68, hm⟩ := ckR_e hm
        obtain ⟨h70, hm⟩ := ckI_e hm
        obtain ⟨k71, i72, hm⟩ := ckO_e hm
        refine zx_ast C k67 i68 k71 i72 h70 dX0_keep_53 ?_
        exact zx_lv [] [] rfl (j_X0_keep_54 C htab hin    hm)
    · refine zx_aald C k31 i32 h34 dX0_keep_33 .null (rf_n h36) ?_
      refine zx_astore_nN C [(3, .null), (2, .int (y9)), (0, .ref (a0)), (1, .int (p0))] dX0_keep_34 rfl (by decide) rfl ?_
      refine zx_aload_n C dX0_keep_35 2 rfl ?_
      obtain ⟨a73, h74, hm⟩ := osm_e hm
      refine zx_get (j := 1) C tC_0 k1 i2 ⟨by decide, Or.inl W_1_37⟩ dX0_keep_36 (.ref a73) (rf_s h74) ?_
      refine zx_iload_n C dX0_keep_39 1 rfl ?_
      refine zx_aload_n C dX0_keep_40 2 rfl ?_
      obtain ⟨a75, h76, hm⟩ := osm_e hm
      refine zx_get (j := 6) C tC_0 k1 i2 ⟨by decide, Or.inl W_1_42⟩ dX0_keep_41 (.ref a75) (rf_s h76) ?_
      refine zx_iload_n C dX0_keep_44 3 rfl ?_
      obtain ⟨n79, k77, i78, hm⟩ := ckR_e hm
      obtain ⟨h80, hm⟩ := ckI_e hm
      rcases omt_e hm with ⟨a81, h82, hm⟩ | ⟨h82, hm⟩
      · refine zx_aald C k77 i78 h80 dX0_keep_45 (.ref a81) (rf_s h82) ?_
        obtain ⟨n85, k83, i84, hm⟩ := ckR_e hm
        obtain ⟨h86, hm⟩ := ckI_e hm
        obtain ⟨k87, i88, hm⟩ := ckO_e hm
        refine zx_ast C k83 i84 k87 i88 h86 dX0_keep_46 ?_
        refine zx_aload_n C dX0_keep_47 2 rfl ?_
        obtain ⟨a89, h90, hm⟩ := osm_e hm
        refine zx_get (j := 6) C tC_0 k1 i2 ⟨by decide, Or.inl W_1_42⟩ dX0_keep_48 (.ref a89) (rf_s h90) ?_
        refine zx_iload_n C dX0_keep_51 3 rfl ?_
        refine zx_aload_nN C dX0_keep_52 0 rfl ?_
        obtain ⟨n93, k91, i92, hm⟩ := ckR_e hm
        obtain ⟨h94, hm⟩ := ckI_e hm
        refine zx_astN C k91 i92 h94 dX0_keep_53 ?_
        exact zx_lv [] [] rfl (j_X0_keep_54 C htab hin    hm)
      · refine zx_aald C k77 i78 h80 dX0_keep_45 .null (rf_n h82) ?_
        obtain ⟨n97, k95, i96, hm⟩ := ckR_e hm
        obtain ⟨h98, hm⟩ := ckI_e hm
        refine zx_astN C k95 i96 h98 dX0_keep_46 ?_
        refine zx_aload_n C dX0_keep_47 2 rfl ?_
        obtain ⟨a99, h100, hm⟩ := osm_e hm
        refine zx_get (j := 6) C tC_0 k1 i2 ⟨by decide, Or.inl W_1_42⟩ dX0_keep_48 (.ref a99) (rf_s h100) ?_
        refine zx_iload_n C dX0_keep_51 3 rfl ?_
        refine zx_aload_nN C dX0_keep_52 0 rfl ?_
        obtain ⟨n103, k101, i102, hm⟩ := ckR_e hm
        obtain ⟨h104, hm⟩ := ckI_e hm
        refine zx_astN C k101 i102 h104 dX0_keep_53 ?_
        exact zx_lv [] [] rfl (j_X0_keep_54 C htab hin    hm)
abbrev cX0_settle : ByteArray := prog_2_method_11_code
def yX0_settle : MethodName := ⟨"SyncTree$Disk", "settle", "()V"⟩
theorem Y_X0_settle : tY yX0_settle cX0_settle 4 none 0 := ⟨W_6_124, W_1_2, ⟨by decide +kernel, by decide +kernel⟩, by decide +kernel⟩
theorem dX0_settle_0 : decode cX0_settle 0 = .ok (.iconst 0, 1) := by decide +kernel
theorem dX0_settle_1 : decode cX0_settle 1 = .ok (.istore_n 1, 1) := by decide +kernel
theorem dX0_settle_2 : decode cX0_settle 2 = .ok (.iload_n 1, 1) := by decide +kernel
theorem dX0_settle_3 : decode cX0_settle 3 = .ok (.aload_n 0, 1) := by decide +kernel
theorem dX0_settle_4 : decode cX0_settle 4 = .ok (.getfield 56, 3) := by decide +kernel
theorem dX0_settle_7 : decode cX0_settle 7 = .ok (.if_icmp .ge 67, 3) := by decide +kernel
theorem dX0_settle_10 : decode cX0_settle 10 = .ok (.aload_n 0, 1) := by decide +kernel
theorem dX0_settle_11 : decode cX0_settle 11 = .ok (.getfield 53, 3) := by decide +kernel
theorem dX0_settle_14 : decode cX0_settle 14 = .ok (.iload_n 1, 1) := by decide +kernel
theorem dX0_settle_15 : decode cX0_settle 15 = .ok (.iadd, 1) := by decide +kernel
theorem dX0_settle_16 : decode cX0_settle 16 = .ok (.sipush 256, 3) := by decide +kernel
theorem dX0_settle_19 : decode cX0_settle 19 = .ok (.irem, 1) := by decide +kernel
theorem dX0_settle_20 : decode cX0_settle 20 = .ok (.istore_n 2, 1) := by decide +kernel
theorem dX0_settle_21 : decode cX0_settle 21 = .ok (.aload_n 0, 1) := by decide +kernel
theorem dX0_settle_22 : decode cX0_settle 22 = .ok (.getfield 27, 3) := by decide +kernel
theorem dX0_settle_25 : decode cX0_settle 25 = .ok (.iload_n 2, 1) := by decide +kernel
theorem dX0_settle_26 : decode cX0_settle 26 = .ok (.iaload, 1) := by decide +kernel
theorem dX0_settle_27 : decode cX0_settle 27 = .ok (.istore_n 3, 1) := by decide +kernel
theorem dX0_settle_28 : decode cX0_settle 28 = .ok (.aload_n 0, 1) := by decide +kernel
theorem dX0_settle_29 : decode cX0_settle 29 = .ok (.getfield 21, 3) := by decide +kernel
theorem dX0_settle_32 : decode cX0_settle 32 = .ok (.iload_n 3, 1) := by decide +kernel
theorem dX0_settle_33 : decode cX0_settle 33 = .ok (.iconst 0, 1) := by decide +kernel
theorem dX0_settle_34 : decode cX0_settle 34 = .ok (.iastore, 1) := by decide +kernel
theorem dX0_settle_35 : decode cX0_settle 35 = .ok (.aload_n 0, 1) := by decide +kernel
theorem dX0_settle_36 : decode cX0_settle 36 = .ok (.getfield 24, 3) := by decide +kernel
theorem dX0_settle_39 : decode cX0_settle 39 = .ok (.iload_n 3, 1) := by decide +kernel
theorem dX0_settle_40 : decode cX0_settle 40 = .ok (.iaload, 1) := by decide +kernel
theorem dX0_settle_41 : decode cX0_settle 41 = .ok (.ifCond .le 27, 3) := by decide +kernel
theorem dX0_settle_44 : decode cX0_settle 44 = .ok (.aload_n 0, 1) := by decide +kernel
theorem dX0_settle_45 : decode cX0_settle 45 = .ok (.getfield 24, 3) := by decide +kernel
theorem dX0_settle_48 : decode cX0_settle 48 = .ok (.iload_n 3, 1) := by decide +kernel
theorem dX0_settle_49 : decode cX0_settle 49 = .ok (.dup2, 1) := by decide +kernel
theorem dX0_settle_50 : decode cX0_settle 50 = .ok (.iaload, 1) := by decide +kernel
theorem dX0_settle_51 : decode cX0_settle 51 = .ok (.iconst 1, 1) := by decide +kernel
theorem dX0_settle_52 : decode cX0_settle 52 = .ok (.isub, 1) := by decide +kernel
theorem dX0_settle_53 : decode cX0_settle 53 = .ok (.iastore, 1) := by decide +kernel
theorem dX0_settle_54 : decode cX0_settle 54 = .ok (.aload_n 0, 1) := by decide +kernel
theorem dX0_settle_55 : decode cX0_settle 55 = .ok (.getfield 24, 3) := by decide +kernel
theorem dX0_settle_58 : decode cX0_settle 58 = .ok (.iload_n 3, 1) := by decide +kernel
theorem dX0_settle_59 : decode cX0_settle 59 = .ok (.iaload, 1) := by decide +kernel
theorem dX0_settle_60 : decode cX0_settle 60 = .ok (.ifCond .ne 8, 3) := by decide +kernel
theorem dX0_settle_63 : decode cX0_settle 63 = .ok (.aload_n 0, 1) := by decide +kernel
theorem dX0_settle_64 : decode cX0_settle 64 = .ok (.iload_n 2, 1) := by decide +kernel
theorem dX0_settle_65 : decode cX0_settle 65 = .ok (.invokevirtual 101, 3) := by decide +kernel
theorem dX0_settle_68 : decode cX0_settle 68 = .ok (.iinc 1 1, 3) := by decide +kernel
theorem dX0_settle_71 : decode cX0_settle 71 = .ok (.goto (-69), 3) := by decide +kernel
theorem dX0_settle_74 : decode cX0_settle 74 = .ok (.aload_n 0, 1) := by decide +kernel
theorem dX0_settle_75 : decode cX0_settle 75 = .ok (.iconst 0, 1) := by decide +kernel
theorem dX0_settle_76 : decode cX0_settle 76 = .ok (.putfield 56, 3) := by decide +kernel
theorem dX0_settle_79 : decode cX0_settle 79 = .ok (.aload_n 0, 1) := by decide +kernel
theorem dX0_settle_80 : decode cX0_settle 80 = .ok (.iconst 1, 1) := by decide +kernel
theorem dX0_settle_81 : decode cX0_settle 81 = .ok (.putfield 68, 3) := by decide +kernel
theorem dX0_settle_84 : decode cX0_settle 84 = .ok (.return_, 1) := by decide +kernel
set_option maxRecDepth 100000 in
set_option maxHeartbeats 1000000 in
theorem j_X0_settle_68 {p : Program} {l : Launch} {e : Env} {s : State} {m : MethodId} {args : Array Value} {below : List Frame} {meth : Method} {c : Code} {D : va_G} {aC : Nat → ClassId} {b0 fu : Nat} {σ0 τ : tM} {v : Unit} {rc2 : Nat → Int32 → tM → Option ((Unit) × tM)} (C : tCx p l s m args meth c yX0_settle.cls cX0_settle 4 none D aC b0 σ0) (htab : ∀ x ∈ c.exceptionTable.toList, False) (hin : meth.name = yX0_settle.name) (hrc2 : ∀ (x0 : Nat) (x1 : Int32) (ρ : tM), rc2 x0 x1 ρ = some (v, τ) → tX p l e s m args below meth c 4 1 23 D aC b0 σ0 (.inl none) τ 2 [(0, .ref (x0)), (1, .int (x1))] [] ρ) {x0 : Nat} {x1 : Int32} {σ : tM} (hm : J_X0_settle_68 b0 fu rc2 x0 x1 σ = some (v, τ)) : tX p l e s m args below meth c 4 1 23 D aC b0 σ0 (.inl none) τ 68 [(0, .ref (x0)), (1, .int (x1))] [] σ := by
  unfold J_X0_settle_68 at hm
  obtain ⟨y25, hy25⟩ : ∃ z : Int32, z = (x1) + Int32.ofInt 1 := ⟨_, rfl⟩
  replace hm := ltb_e hm hy25
  refine zx_iinc C [(1, .int (y25)), (0, .ref (x0))] dX0_settle_68 1 rfl hy25.symm (by decide) rfl ?_
  refine zx_goto C 2 dX0_settle_71 (by decide) ?_
  exact zx_lv [1, 0] [(0, .ref (x0)), (1, .int (y25))] rfl (hrc2 _ _ _ hm)
set_option maxRecDepth 100000 in
set_option maxHeartbeats 1000000 in
theorem l_X0_settle_2 {p : Program} {l : Launch} {e : Env} {s : State} {m : MethodId} {args : Array Value} {below : List Frame} {meth : Method} {c : Code} {D : va_G} {aC : Nat → ClassId} {b0 fu : Nat} {σ0 τ : tM} {v : Unit}  (C : tCx p l s m args meth c yX0_settle.cls cX0_settle 4 none D aC b0 σ0) (htab : ∀ x ∈ c.exceptionTable.toList, False) (hin : meth.name = yX0_settle.name)  : ∀ (n : Nat) (x0 : Nat) (x1 : Int32) (σ : tM), L_X0_settle_2 b0 fu  n x0 x1 σ = some (v, τ) → tX p l e s m args below meth c 4 1 23 D aC b0 σ0 (.inl none) τ 2 [(0, .ref (x0)), (1, .int (x1))] [] σ := by
  intro n
  induction n with
  | zero => intro x0 x1 σ hm; unfold L_X0_settle_2 at hm; cases hm
  | succ n ih =>
    intro x0 x1 σ hm
    unfold L_X0_settle_2 at hm
    obtain ⟨rc2, hrc⟩ : ∃ z, z = L_X0_settle_2 b0 fu  n := ⟨_, rfl⟩
    replace hm := ltb_e hm hrc
    rw [← hrc] at ih
    have hrc2 := ih
    clear ih hrc
    refine zx_iload_n C dX0_settle_2 1 rfl ?_
    refine zx_aload_n C dX0_settle_3 0 rfl ?_
    obtain ⟨k1, i2, hm⟩ := ckO_e hm
    refine zx_get (j := 10) C tC_0 k1 i2 ⟨by decide, Or.inl W_1_46⟩ dX0_settle_4 (.int (tI (σ) (x0) 10)) rfl ?_
    refine zx_icmp_ge C 74 dX0_settle_7 (by decide) (fun c3 => ?_) (fun c3 => ?_)
    · replace hm := ip_e hm c3
      refine zx_aload_n C dX0_settle_74 0 rfl ?_
      refine zx_iconst (v := 0) C dX0_settle_75 (by decide) ?_
      refine zx_put (j := 10) (ρ := sI (σ) (x0) 10 (0)) C tC_0 k1 i2 ⟨by decide, Or.inl W_1_46⟩ rfl rfl rfl (sI_ok (fun _ => rfl)) dX0_settle_76 ?_
      refine zx_aload_n C dX0_settle_79 0 rfl ?_
      refine zx_iconst (v := 1) C dX0_settle_80 (by decide) ?_
      refine zx_put (j := 14) (ρ := sI (sI (σ) (x0) 10 (0)) (x0) 14 (1)) C tC_0 k1 i2 ⟨by decide, Or.inl W_1_52⟩ rfl rfl rfl (sI_ok (fun _ => rfl)) dX0_settle_81 ?_
      obtain ⟨rfl, rfl⟩ := ret_e hm
      exact zx_vret C rfl rfl rfl dX0_settle_84
    · replace hm := in_e hm c3
      refine zx_aload_n C dX0_settle_10 0 rfl ?_
      refine zx_get (j := 9) C tC_0 k1 i2 ⟨by decide, Or.inl W_1_45⟩ dX0_settle_11 (.int (tI (σ) (x0) 9)) rfl ?_
      refine zx_iload_n C dX0_settle_14 1 rfl ?_
      refine zx_iadd C dX0_settle_15 ?_
      refine zx_sipush (v := 256) C dX0_settle_16 (by decide) ?_
      refine zx_irem C dX0_settle_19 (by decide) ?_
      refine zx_topi (fun y4 hy4 => ?_)
      replace hm := ltb_e hm hy4
      refine zx_istore_n C [(2, .int (y4)), (0, .ref (x0)), (1, .int (x1))] dX0_settle_20 rfl (by decide) rfl ?_
      refine zx_aload_n C dX0_settle_21 1 rfl ?_
      obtain ⟨a5, h6, hm⟩ := osm_e hm
      refine zx_get (j := 4) C tC_0 k1 i2 ⟨by decide, Or.inl W_1_40⟩ dX0_settle_22 (.ref a5) (rf_s h6) ?_
      refine zx_iload_n C dX0_settle_25 0 rfl ?_
      obtain ⟨n9, k7, i8, hm⟩ := ckR_e hm
      obtain ⟨h10, hm⟩ := ckI_e hm
      refine zx_iald C k7 i8 h10 dX0_settle_26 ?_
      refine zx_topi (fun y11 hy11 => ?_)
      replace hm := ltb_e hm hy11
      refine zx_istore_n C [(3, .int (y11)), (2, .int (y4)), (0, .ref (x0)), (1, .int (x1))] dX0_settle_27 rfl (by decide) rfl ?_
      refine zx_aload_n C dX0_settle_28 2 rfl ?_
      obtain ⟨a12, h13, hm⟩ := osm_e hm
      refine zx_get (j := 2) C tC_0 k1 i2 ⟨by decide, Or.inl W_1_38⟩ dX0_settle_29 (.ref a12) (rf_s h13) ?_
      refine zx_iload_n C dX0_settle_32 0 rfl ?_
      refine zx_iconst (v := 0) C dX0_settle_33 (by decide) ?_
      obtain ⟨n16, k14, i15, hm⟩ := ckR_e hm
      obtain ⟨h17, hm⟩ := ckI_e hm
      refine zx_iast C k14 i15 h17 dX0_settle_34 ?_
      refine zx_aload_n C dX0_settle_35 2 rfl ?_
      obtain ⟨a18, h19, hm⟩ := osm_e hm
      refine zx_get (j := 3) C tC_0 k1 i2 ⟨by decide, Or.inl W_1_39⟩ dX0_settle_36 (.ref a18) (rf_s h19) ?_
      refine zx_iload_n C dX0_settle_39 0 rfl ?_
      obtain ⟨n22, k20, i21, hm⟩ := ckR_e hm
      obtain ⟨h23, hm⟩ := ckI_e hm
      refine zx_iald C k20 i21 h23 dX0_settle_40 ?_
      refine zx_if_le C 68 dX0_settle_41 (by decide) (fun c24 => ?_) (fun c24 => ?_)
      · replace hm := ip_e hm c24
        exact zx_lv [2, 3] [(0, .ref (x0)), (1, .int (x1))] rfl (j_X0_settle_68 C htab hin hrc2   hm)
      · replace hm := in_e hm c24
        refine zx_aload_n C dX0_settle_44 2 rfl ?_
        obtain ⟨a26, h27, hm⟩ := osm_e hm
        refine zx_get (j := 3) C tC_0 k1 i2 ⟨by decide, Or.inl W_1_39⟩ dX0_settle_45 (.ref a26) (rf_s h27) ?_
        refine zx_iload_n C dX0_settle_48 0 rfl ?_
        refine zx_dup2_11 C dX0_settle_49 rfl rfl ?_
        obtain ⟨n30, k28, i29, hm⟩ := ckR_e hm
        obtain ⟨h31, hm⟩ := ckI_e hm
        refine zx_iald C k28 i29 h31 dX0_settle_50 ?_
        refine zx_iconst (v := 1) C dX0_settle_51 (by decide) ?_
        refine zx_isub C dX0_settle_52 ?_
        obtain ⟨h32, hm⟩ := ckI_e hm
        refine zx_iast C k28 i29 h32 dX0_settle_53 ?_
        refine zx_aload_n C dX0_settle_54 2 rfl ?_
        obtain ⟨a33, h34, hm⟩ := osm_e hm
        refine zx_get (j := 3) C tC_0 k1 i2 ⟨by decide, Or.inl W_1_39⟩ dX0_settle_55 (.ref a33) (rf_s h34) ?_
        refine zx_iload_n C dX0_settle_58 0 rfl ?_
        obtain ⟨n37, k35, i36, hm⟩ := ckR_e hm
        obtain ⟨h38, hm⟩ := ckI_e hm
        refine zx_iald C k35 i36 h38 dX0_settle_59 ?_
        refine zx_if_ne C 68 dX0_settle_60 (by decide) (fun c39 => ?_) (fun c39 => ?_)
        · replace hm := in_e hm c39
          exact zx_lv [2, 3] [(0, .ref (x0)), (1, .int (x1))] rfl (j_X0_settle_68 C htab hin hrc2   hm)
        · replace hm := ip_e hm c39
          refine zx_aload_n C dX0_settle_63 2 rfl ?_
          refine zx_iload_n C dX0_settle_64 1 rfl ?_
          obtain ⟨v40, ρ41, h42, hm⟩ := cll_e hm
          refine zx_callV (σ := sI (sI (σ) (a12) ((y11).toNatClampNeg) (0)) (a26) ((y11).toNatClampNeg) ((tI (sI (σ) (a12) ((y11).toNatClampNeg) (0)) (a26) ((y11).toNatClampNeg)) - (1))) C [.int (y4)] tC_0 k1 i2 Y_X0_keep W_3_212 W_3_214 Wp_14 (c_X0_keep h42) (by decide) (by decide) rfl (Nat.le_of_ble_eq_true rfl) dX0_settle_65 rfl ?_
          exact zx_lv [2, 3] [(0, .ref (x0)), (1, .int (x1))] rfl (j_X0_settle_68 C htab hin hrc2   hm)
set_option maxRecDepth 100000 in
set_option maxHeartbeats 1000000 in
theorem c_X0_settle {l : Launch} {D : va_G} {aC : Nat → ClassId} {b0 fu : Nat} {a0 : Nat} {σ τ : tM} {v : Unit} (hm : m_X0_settle b0 fu a0 σ = some (v, τ)) : tMt l D aC b0 yX0_settle (Cond.code yX0_settle cX0_settle 4 none) 1 23 [.ref (a0)] σ (.inl none) τ := by
  unfold m_X0_settle at hm
  obtain ⟨hg, hm⟩ := grw_e hm
  refine tMt_of (n := 0) rfl (Nat.le_of_ble_eq_true rfl) hg ?_
  intro p e s m below meth c C htab hin
  refine zx_lv [0] [(0, .ref (a0))] rfl ?_
  refine zx_iconst (v := 0) C dX0_settle_0 (by decide) ?_
  refine zx_istore_n C [(1, .int (0)), (0, .ref (a0))] dX0_settle_1 rfl (by decide) rfl ?_
  exact zx_lv [1, 0] [(0, .ref (a0)), (1, .int (0))] rfl (l_X0_settle_2 C htab hin  _ _ _ _ hm)
abbrev cX0_countOf : ByteArray := prog_2_method_12_code
def yX0_countOf : MethodName := ⟨"SyncTree$Disk", "countOf", "(I)I"⟩
theorem Y_X0_countOf : tY yX0_countOf cX0_countOf 2 (some .int) 1 := ⟨W_3_49, W_1_2, ⟨by decide +kernel, by decide +kernel⟩, by decide +kernel⟩
theorem dX0_countOf_0 : decode cX0_countOf 0 = .ok (.iload_n 1, 1) := by decide +kernel
theorem dX0_countOf_1 : decode cX0_countOf 1 = .ok (.ifCond .lt 11, 3) := by decide +kernel
theorem dX0_countOf_4 : decode cX0_countOf 4 = .ok (.iload_n 1, 1) := by decide +kernel
theorem dX0_countOf_5 : decode cX0_countOf 5 = .ok (.aload_n 0, 1) := by decide +kernel
theorem dX0_countOf_6 : decode cX0_countOf 6 = .ok (.getfield 40, 3) := by decide +kernel
theorem dX0_countOf_9 : decode cX0_countOf 9 = .ok (.if_icmp .lt 7, 3) := by decide +kernel
theorem dX0_countOf_12 : decode cX0_countOf 12 = .ok (.iconst (-1), 1) := by decide +kernel
theorem dX0_countOf_13 : decode cX0_countOf 13 = .ok (.goto 9, 3) := by decide +kernel
theorem dX0_countOf_16 : decode cX0_countOf 16 = .ok (.aload_n 0, 1) := by decide +kernel
theorem dX0_countOf_17 : decode cX0_countOf 17 = .ok (.getfield 21, 3) := by decide +kernel
theorem dX0_countOf_20 : decode cX0_countOf 20 = .ok (.iload_n 1, 1) := by decide +kernel
theorem dX0_countOf_21 : decode cX0_countOf 21 = .ok (.iaload, 1) := by decide +kernel
theorem dX0_countOf_22 : decode cX0_countOf 22 = .ok (.ireturn, 1) := by decide +kernel
set_option maxRecDepth 100000 in
set_option maxHeartbeats 1000000 in
theorem j_X0_countOf_22 {p : Program} {l : Launch} {e : Env} {s : State} {m : MethodId} {args : Array Value} {below : List Frame} {meth : Method} {c : Code} {D : va_G} {aC : Nat → ClassId} {b0 fu : Nat} {σ0 τ : tM} {v : Int32}  (C : tCx p l s m args meth c yX0_countOf.cls cX0_countOf 2 (some .int) D aC b0 σ0) (htab : ∀ x ∈ c.exceptionTable.toList, False) (hin : meth.name = yX0_countOf.name)  {s0 : Int32} {σ : tM} (hm : J_X0_countOf_22 b0 fu  s0 σ = some (v, τ)) : tX p l e s m args below meth c 2 0 0 D aC b0 σ0 (.inl (some (.int v))) τ 22 [] [.int (s0)] σ := by
  unfold J_X0_countOf_22 at hm
  obtain ⟨rfl, rfl⟩ := ret_e hm
  exact zx_iret C rfl rfl rfl dX0_countOf_22
set_option maxRecDepth 100000 in
set_option maxHeartbeats 1000000 in
theorem j_X0_countOf_12 {p : Program} {l : Launch} {e : Env} {s : State} {m : MethodId} {args : Array Value} {below : List Frame} {meth : Method} {c : Code} {D : va_G} {aC : Nat → ClassId} {b0 fu : Nat} {σ0 τ : tM} {v : Int32}  (C : tCx p l s m args meth c yX0_countOf.cls cX0_countOf 2 (some .int) D aC b0 σ0) (htab : ∀ x ∈ c.exceptionTable.toList, False) (hin : meth.name = yX0_countOf.name)   {σ : tM} (hm : J_X0_countOf_12 b0 fu   σ = some (v, τ)) : tX p l e s m args below meth c 2 0 0 D aC b0 σ0 (.inl (some (.int v))) τ 12 [] [] σ := by
  unfold J_X0_countOf_12 at hm
  refine zx_iconst (v := (-1)) C dX0_countOf_12 (by decide) ?_
  refine zx_goto C 22 dX0_countOf_13 (by decide) ?_
  exact zx_lv [] [] rfl (j_X0_countOf_22 C htab hin    hm)
set_option maxRecDepth 100000 in
set_option maxHeartbeats 1000000 in
theorem c_X0_countOf {l : Launch} {D : va_G} {aC : Nat → ClassId} {b0 fu : Nat} {a0 : Nat} {p0 : Int32} {σ τ : tM} {v : Int32} (hm : m_X0_countOf b0 fu a0 p0 σ = some (v, τ)) : tMt l D aC b0 yX0_countOf (Cond.code yX0_countOf cX0_countOf 2 (some .int)) 0 0 [.ref (a0), .int (p0)] σ (.inl (some (.int v))) τ := by
  unfold m_X0_countOf at hm
  obtain ⟨hg, hm⟩ := grw_e hm
  refine tMt_of (n := 0) rfl (Nat.le_of_ble_eq_true rfl) hg ?_
  intro p e s m below meth c C htab hin
  refine zx_lv [0, 1] [(0, .ref (a0)), (1, .int (p0))] rfl ?_
  refine zx_iload_n C dX0_countOf_0 1 rfl ?_
  refine zx_if_lt C 12 dX0_countOf_1 (by decide) (fun c1 => ?_) (fun c1 => ?_)
  · replace hm := ip_e hm c1
    exact zx_lv [] [] rfl (j_X0_countOf_12 C htab hin    hm)
  · replace hm := in_e hm c1
    refine zx_iload_n C dX0_countOf_4 1 rfl ?_
    refine zx_aload_n C dX0_countOf_5 0 rfl ?_
    obtain ⟨k2, i3, hm⟩ := ckO_e hm
    refine zx_get (j := 8) C tC_0 k2 i3 ⟨by decide, Or.inl W_1_44⟩ dX0_countOf_6 (.int (tI (σ) (a0) 8)) rfl ?_
    refine zx_icmp_lt C 16 dX0_countOf_9 (by decide) (fun c4 => ?_) (fun c4 => ?_)
    · replace hm := ip_e hm c4
      refine zx_aload_n C dX0_countOf_16 0 rfl ?_
      obtain ⟨a5, h6, hm⟩ := osm_e hm
      refine zx_get (j := 2) C tC_0 k2 i3 ⟨by decide, Or.inl W_1_38⟩ dX0_countOf_17 (.ref a5) (rf_s h6) ?_
      refine zx_iload_n C dX0_countOf_20 1 rfl ?_
      obtain ⟨n9, k7, i8, hm⟩ := ckR_e hm
      obtain ⟨h10, hm⟩ := ckI_e hm
      refine zx_iald C k7 i8 h10 dX0_countOf_21 ?_
      exact zx_lv [] [] rfl (j_X0_countOf_22 C htab hin    hm)
    · replace hm := in_e hm c4
      exact zx_lv [] [] rfl (j_X0_countOf_12 C htab hin    hm)
abbrev cX0_setChoice : ByteArray := prog_2_method_13_code
def yX0_setChoice : MethodName := ⟨"SyncTree$Disk", "setChoice", "(II)V"⟩
theorem Y_X0_setChoice : tY yX0_setChoice cX0_setChoice 3 none 2 := ⟨W_3_53, W_1_2, ⟨by decide +kernel, by decide +kernel⟩, by decide +kernel⟩
theorem dX0_setChoice_0 : decode cX0_setChoice 0 = .ok (.iload_n 1, 1) := by decide +kernel
theorem dX0_setChoice_1 : decode cX0_setChoice 1 = .ok (.ifCond .lt 18, 3) := by decide +kernel
theorem dX0_setChoice_4 : decode cX0_setChoice 4 = .ok (.iload_n 1, 1) := by decide +kernel
theorem dX0_setChoice_5 : decode cX0_setChoice 5 = .ok (.aload_n 0, 1) := by decide +kernel
theorem dX0_setChoice_6 : decode cX0_setChoice 6 = .ok (.getfield 40, 3) := by decide +kernel
theorem dX0_setChoice_9 : decode cX0_setChoice 9 = .ok (.if_icmp .ge 10, 3) := by decide +kernel
theorem dX0_setChoice_12 : decode cX0_setChoice 12 = .ok (.aload_n 0, 1) := by decide +kernel
theorem dX0_setChoice_13 : decode cX0_setChoice 13 = .ok (.getfield 24, 3) := by decide +kernel
theorem dX0_setChoice_16 : decode cX0_setChoice 16 = .ok (.iload_n 1, 1) := by decide +kernel
theorem dX0_setChoice_17 : decode cX0_setChoice 17 = .ok (.iload_n 2, 1) := by decide +kernel
theorem dX0_setChoice_18 : decode cX0_setChoice 18 = .ok (.iastore, 1) := by decide +kernel
theorem dX0_setChoice_19 : decode cX0_setChoice 19 = .ok (.return_, 1) := by decide +kernel
set_option maxRecDepth 100000 in
set_option maxHeartbeats 1000000 in
theorem j_X0_setChoice_19 {p : Program} {l : Launch} {e : Env} {s : State} {m : MethodId} {args : Array Value} {below : List Frame} {meth : Method} {c : Code} {D : va_G} {aC : Nat → ClassId} {b0 fu : Nat} {σ0 τ : tM} {v : Unit}  (C : tCx p l s m args meth c yX0_setChoice.cls cX0_setChoice 3 none D aC b0 σ0) (htab : ∀ x ∈ c.exceptionTable.toList, False) (hin : meth.name = yX0_setChoice.name)   {σ : tM} (hm : J_X0_setChoice_19 b0 fu   σ = some (v, τ)) : tX p l e s m args below meth c 3 0 0 D aC b0 σ0 (.inl none) τ 19 [] [] σ := by
  unfold J_X0_setChoice_19 at hm
  obtain ⟨rfl, rfl⟩ := ret_e hm
  exact zx_vret C rfl rfl rfl dX0_setChoice_19
set_option maxRecDepth 100000 in
set_option maxHeartbeats 1000000 in
theorem c_X0_setChoice {l : Launch} {D : va_G} {aC : Nat → ClassId} {b0 fu : Nat} {a0 : Nat} {p0 : Int32} {p1 : Int32} {σ τ : tM} {v : Unit} (hm : m_X0_setChoice b0 fu a0 p0 p1 σ = some (v, τ)) : tMt l D aC b0 yX0_setChoice (Cond.code yX0_setChoice cX0_setChoice 3 none) 0 0 [.ref (a0), .int (p0), .int (p1)] σ (.inl none) τ := by
  unfold m_X0_setChoice at hm
  obtain ⟨hg, hm⟩ := grw_e hm
  refine tMt_of (n := 0) rfl (Nat.le_of_ble_eq_true rfl) hg ?_
  intro p e s m below meth c C htab hin
  refine zx_lv [0, 1, 2] [(0, .ref (a0)), (1, .int (p0)), (2, .int (p1))] rfl ?_
  refine zx_iload_n C dX0_setChoice_0 1 rfl ?_
  refine zx_if_lt C 19 dX0_setChoice_1 (by decide) (fun c1 => ?_) (fun c1 => ?_)
  · replace hm := ip_e hm c1
    exact zx_lv [] [] rfl (j_X0_setChoice_19 C htab hin    hm)
  · replace hm := in_e hm c1
    refine zx_iload_n C dX0_setChoice_4 1 rfl ?_
    refine zx_aload_n C dX0_setChoice_5 0 rfl ?_
    obtain ⟨k2, i3, hm⟩ := ckO_e hm
    refine zx_get (j := 8) C tC_0 k2 i3 ⟨by decide, Or.inl W_1_44⟩ dX0_setChoice_6 (.int (tI (σ) (a0) 8)) rfl ?_
    refine zx_icmp_ge C 19 dX0_setChoice_9 (by decide) (fun c4 => ?_) (fun c4 => ?_)
    · replace hm := ip_e hm c4
      exact zx_lv [] [] rfl (j_X0_setChoice_19 C htab hin    hm)
    · replace hm := in_e hm c4
      refine zx_aload_n C dX0_setChoice_12 0 rfl ?_
      obtain ⟨a5, h6, hm⟩ := osm_e hm
      refine zx_get (j := 3) C tC_0 k2 i3 ⟨by decide, Or.inl W_1_39⟩ dX0_setChoice_13 (.ref a5) (rf_s h6) ?_
      refine zx_iload_n C dX0_setChoice_16 1 rfl ?_
      refine zx_iload_n C dX0_setChoice_17 2 rfl ?_
      obtain ⟨n9, k7, i8, hm⟩ := ckR_e hm
      obtain ⟨h10, hm⟩ := ckI_e hm
      refine zx_iast C k7 i8 h10 dX0_setChoice_18 ?_
      exact zx_lv [] [] rfl (j_X0_setChoice_19 C htab hin    hm)
abbrev cX0_chooseAll : ByteArray := prog_2_method_14_code
def yX0_chooseAll : MethodName := ⟨"SyncTree$Disk", "chooseAll", "(J)I"⟩
theorem Y_X0_chooseAll : tY yX0_chooseAll cX0_chooseAll 6 (some .int) 1 := ⟨W_3_61, W_1_2, ⟨by decide +kernel, by decide +kernel⟩, by decide +kernel⟩
theorem dX0_chooseAll_0 : decode cX0_chooseAll 0 = .ok (.iconst 0, 1) := by decide +kernel
theorem dX0_chooseAll_1 : decode cX0_chooseAll 1 = .ok (.istore_n 3, 1) := by decide +kernel
theorem dX0_chooseAll_2 : decode cX0_chooseAll 2 = .ok (.iconst 0, 1) := by decide +kernel
theorem dX0_chooseAll_3 : decode cX0_chooseAll 3 = .ok (.istore 4, 2) := by decide +kernel
theorem dX0_chooseAll_5 : decode cX0_chooseAll 5 = .ok (.iload 4, 2) := by decide +kernel
theorem dX0_chooseAll_7 : decode cX0_chooseAll 7 = .ok (.aload_n 0, 1) := by decide +kernel
theorem dX0_chooseAll_8 : decode cX0_chooseAll 8 = .ok (.getfield 40, 3) := by decide +kernel
theorem dX0_chooseAll_11 : decode cX0_chooseAll 11 = .ok (.if_icmp .ge 51, 3) := by decide +kernel
theorem dX0_chooseAll_14 : decode cX0_chooseAll 14 = .ok (.aload_n 0, 1) := by decide +kernel
theorem dX0_chooseAll_15 : decode cX0_chooseAll 15 = .ok (.getfield 21, 3) := by decide +kernel
theorem dX0_chooseAll_18 : decode cX0_chooseAll 18 = .ok (.iload 4, 2) := by decide +kernel
theorem dX0_chooseAll_20 : decode cX0_chooseAll 20 = .ok (.iaload, 1) := by decide +kernel
theorem dX0_chooseAll_21 : decode cX0_chooseAll 21 = .ok (.istore 5, 2) := by decide +kernel
theorem dX0_chooseAll_23 : decode cX0_chooseAll 23 = .ok (.iload 5, 2) := by decide +kernel
theorem dX0_chooseAll_25 : decode cX0_chooseAll 25 = .ok (.ifCond .le 31, 3) := by decide +kernel
theorem dX0_chooseAll_28 : decode cX0_chooseAll 28 = .ok (.aload_n 0, 1) := by decide +kernel
theorem dX0_chooseAll_29 : decode cX0_chooseAll 29 = .ok (.getfield 24, 3) := by decide +kernel
theorem dX0_chooseAll_32 : decode cX0_chooseAll 32 = .ok (.iload 4, 2) := by decide +kernel
theorem dX0_chooseAll_34 : decode cX0_chooseAll 34 = .ok (.lload_n 1, 1) := by decide +kernel
theorem dX0_chooseAll_35 : decode cX0_chooseAll 35 = .ok (.iload 4, 2) := by decide +kernel
theorem dX0_chooseAll_37 : decode cX0_chooseAll 37 = .ok (.bipush 54, 2) := by decide +kernel
theorem dX0_chooseAll_39 : decode cX0_chooseAll 39 = .ok (.irem, 1) := by decide +kernel
theorem dX0_chooseAll_40 : decode cX0_chooseAll 40 = .ok (.lushr, 1) := by decide +kernel
theorem dX0_chooseAll_41 : decode cX0_chooseAll 41 = .ok (.ldc2_w 105, 3) := by decide +kernel
theorem dX0_chooseAll_44 : decode cX0_chooseAll 44 = .ok (.land, 1) := by decide +kernel
theorem dX0_chooseAll_45 : decode cX0_chooseAll 45 = .ok (.iload 5, 2) := by decide +kernel
theorem dX0_chooseAll_47 : decode cX0_chooseAll 47 = .ok (.iconst 1, 1) := by decide +kernel
theorem dX0_chooseAll_48 : decode cX0_chooseAll 48 = .ok (.iadd, 1) := by decide +kernel
theorem dX0_chooseAll_49 : decode cX0_chooseAll 49 = .ok (.i2l, 1) := by decide +kernel
theorem dX0_chooseAll_50 : decode cX0_chooseAll 50 = .ok (.lrem, 1) := by decide +kernel
theorem dX0_chooseAll_51 : decode cX0_chooseAll 51 = .ok (.l2i, 1) := by decide +kernel
theorem dX0_chooseAll_52 : decode cX0_chooseAll 52 = .ok (.iastore, 1) := by decide +kernel
theorem dX0_chooseAll_53 : decode cX0_chooseAll 53 = .ok (.iinc 3 1, 3) := by decide +kernel
theorem dX0_chooseAll_56 : decode cX0_chooseAll 56 = .ok (.iinc 4 1, 3) := by decide +kernel
theorem dX0_chooseAll_59 : decode cX0_chooseAll 59 = .ok (.goto (-54), 3) := by decide +kernel
theorem dX0_chooseAll_62 : decode cX0_chooseAll 62 = .ok (.iload_n 3, 1) := by decide +kernel
theorem dX0_chooseAll_63 : decode cX0_chooseAll 63 = .ok (.ireturn, 1) := by decide +kernel
set_option maxRecDepth 100000 in
set_option maxHeartbeats 1000000 in
theorem j_X0_chooseAll_56 {p : Program} {l : Launch} {e : Env} {s : State} {m : MethodId} {args : Array Value} {below : List Frame} {meth : Method} {c : Code} {D : va_G} {aC : Nat → ClassId} {b0 fu : Nat} {σ0 τ : tM} {v : Int32} {rc5 : Nat → Int64 → Int32 → Int32 → tM → Option ((Int32) × tM)} (C : tCx p l s m args meth c yX0_chooseAll.cls cX0_chooseAll 6 (some .int) D aC b0 σ0) (htab : ∀ x ∈ c.exceptionTable.toList, False) (hin : meth.name = yX0_chooseAll.name) (hrc5 : ∀ (x0 : Nat) (x1 : Int64) (x3 : Int32) (x4 : Int32) (ρ : tM), rc5 x0 x1 x3 x4 ρ = some (v, τ) → tX p l e s m args below meth c 6 0 0 D aC b0 σ0 (.inl (some (.int v))) τ 5 [(0, .ref (x0)), (1, .long (x1)), (3, .int (x3)), (4, .int (x4))] [] ρ) {x0 : Nat} {x1 : Int64} {x3 : Int32} {x4 : Int32} {σ : tM} (hm : J_X0_chooseAll_56 b0 fu rc5 x0 x1 x3 x4 σ = some (v, τ)) : tX p l e s m args below meth c 6 0 0 D aC b0 σ0 (.inl (some (.int v))) τ 56 [(0, .ref (x0)), (1, .long (x1)), (3, .int (x3)), (4, .int (x4))] [] σ := by
  unfold J_X0_chooseAll_56 at hm
  obtain ⟨y12, hy12⟩ : ∃ z : Int32, z = (x4) + Int32.ofInt 1 := ⟨_, rfl⟩
  replace hm := ltb_e hm hy12
  refine zx_iinc C [(4, .int (y12)), (0, .ref (x0)), (1, .long (x1)), (3, .int (x3))] dX0_chooseAll_56 3 rfl hy12.symm (by decide) rfl ?_
  refine zx_goto C 5 dX0_chooseAll_59 (by decide) ?_
  exact zx_lv [1, 2, 3, 0] [(0, .ref (x0)), (1, .long (x1)), (3, .int (x3)), (4, .int (y12))] rfl (hrc5 _ _ _ _ _ hm)
set_option maxRecDepth 100000 in
set_option maxHeartbeats 1000000 in
theorem l_X0_chooseAll_5 {p : Program} {l : Launch} {e : Env} {s : State} {m : MethodId} {args : Array Value} {below : List Frame} {meth : Method} {c : Code} {D : va_G} {aC : Nat → ClassId} {b0 fu : Nat} {σ0 τ : tM} {v : Int32}  (C : tCx p l s m args meth c yX0_chooseAll.cls cX0_chooseAll 6 (some .int) D aC b0 σ0) (htab : ∀ x ∈ c.exceptionTable.toList, False) (hin : meth.name = yX0_chooseAll.name)  : ∀ (n : Nat) (x0 : Nat) (x1 : Int64) (x3 : Int32) (x4 : Int32) (σ : tM), L_X0_chooseAll_5 b0 fu  n x0 x1 x3 x4 σ = some (v, τ) → tX p l e s m args below meth c 6 0 0 D aC b0 σ0 (.inl (some (.int v))) τ 5 [(0, .ref (x0)), (1, .long (x1)), (3, .int (x3)), (4, .int (x4))] [] σ := by
  intro n
  induction n with
  | zero => intro x0 x1 x3 x4 σ hm; unfold L_X0_chooseAll_5 at hm; cases hm
  | succ n ih =>
    intro x0 x1 x3 x4 σ hm
    unfold L_X0_chooseAll_5 at hm
    obtain ⟨rc5, hrc⟩ : ∃ z, z = L_X0_chooseAll_5 b0 fu  n := ⟨_, rfl⟩
    replace hm := ltb_e hm hrc
    rw [← hrc] at ih
    have hrc5 := ih
    clear ih hrc
    refine zx_iload C dX0_chooseAll_5 3 rfl ?_
    refine zx_aload_n C dX0_chooseAll_7 0 rfl ?_
    obtain ⟨k1, i2, hm⟩ := ckO_e hm
    refine zx_get (j := 8) C tC_0 k1 i2 ⟨by decide, Or.inl W_1_44⟩ dX0_chooseAll_8 (.int (tI (σ) (x0) 8)) rfl ?_
    refine zx_icmp_ge C 62 dX0_chooseAll_11 (by decide) (fun c3 => ?_) (fun c3 => ?_)
    · replace hm := ip_e hm c3
      refine zx_iload_n C dX0_chooseAll_62 2 rfl ?_
      obtain ⟨rfl, rfl⟩ := ret_e hm
      exact zx_iret C rfl rfl rfl dX0_chooseAll_63
    · replace hm := in_e hm c3
      refine zx_aload_n C dX0_chooseAll_14 0 rfl ?_
      obtain ⟨a4, h5, hm⟩ := osm_e hm
      refine zx_get (j := 2) C tC_0 k1 i2 ⟨by decide, Or.inl W_1_38⟩ dX0_chooseAll_15 (.ref a4) (rf_s h5) ?_
      refine zx_iload C dX0_chooseAll_18 3 rfl ?_
      obtain ⟨n8, k6, i7, hm⟩ := ckR_e hm
      obtain ⟨h9, hm⟩ := ckI_e hm
      refine zx_iald C k6 i7 h9 dX0_chooseAll_20 ?_
      refine zx_topi (fun y10 hy10 => ?_)
      replace hm := ltb_e hm hy10
      refine zx_istore C [(5, .int (y10)), (0, .ref (x0)), (1, .long (x1)), (3, .int (x3)), (4, .int (x4))] dX0_chooseAll_21 (by decide) rfl ?_
      refine zx_iload C dX0_chooseAll_23 0 rfl ?_
      refine zx_if_le C 56 dX0_chooseAll_25 (by decide) (fun c11 => ?_) (fun c11 => ?_)
      · replace hm := ip_e hm c11
        exact zx_lv [1, 2, 3, 4] [(0, .ref (x0)), (1, .long (x1)), (3, .int (x3)), (4, .int (x4))] rfl (j_X0_chooseAll_56 C htab hin hrc5   hm)
      · replace hm := in_e hm c11
        refine zx_aload_n C dX0_chooseAll_28 1 rfl ?_
        obtain ⟨a13, h14, hm⟩ := osm_e hm
        refine zx_get (j := 3) C tC_0 k1 i2 ⟨by decide, Or.inl W_1_39⟩ dX0_chooseAll_29 (.ref a13) (rf_s h14) ?_
        refine zx_iload C dX0_chooseAll_32 4 rfl ?_
        refine zx_lload_n C dX0_chooseAll_34 2 rfl ?_
        refine zx_iload C dX0_chooseAll_35 4 rfl ?_
        refine zx_bipush (v := 54) C dX0_chooseAll_37 (by decide) ?_
        refine zx_irem C dX0_chooseAll_39 (by decide) ?_
        refine zx_lushr C dX0_chooseAll_40 ?_
        refine zx_ldc2 (v := 1023) C W_3_62 dX0_chooseAll_41 ?_
        refine zx_land C dX0_chooseAll_44 ?_
        refine zx_iload C dX0_chooseAll_45 0 rfl ?_
        refine zx_iconst (v := 1) C dX0_chooseAll_47 (by decide) ?_
        refine zx_iadd C dX0_chooseAll_48 ?_
        refine zx_i2l C dX0_chooseAll_49 ?_
        obtain ⟨h27, hm⟩ := ckL_e hm
        refine zx_lrem C dX0_chooseAll_50 h27 ?_
        refine zx_l2i C dX0_chooseAll_51 ?_
        obtain ⟨n17, k15, i16, hm⟩ := ckR_e hm
        obtain ⟨h18, hm⟩ := ckI_e hm
        refine zx_iast C k15 i16 h18 dX0_chooseAll_52 ?_
        refine zx_mem (fun ρ19 hρ19 => ?_)
        replace hm := ltb_e hm hρ19
        have k20 : tk ρ19 (x0) = .inl 0 := by rw [hρ19]; exact k1
        have i21 : tIn b0 ρ19 (x0) := by rw [hρ19]; exact i2
        have k22 : tk ρ19 (a4) = .inr (0, n8) := by rw [hρ19]; exact k6
        have i23 : tIn b0 ρ19 (a4) := by rw [hρ19]; exact i7
        have k24 : tk ρ19 (a13) = .inr (0, n17) := by rw [hρ19]; exact k15
        have i25 : tIn b0 ρ19 (a13) := by rw [hρ19]; exact i16
        obtain ⟨y26, hy26⟩ : ∃ z : Int32, z = (x3) + Int32.ofInt 1 := ⟨_, rfl⟩
        replace hm := ltb_e hm hy26
        refine zx_iinc C [(3, .int (y26)), (5, .int (y10)), (0, .ref (x0)), (1, .long (x1)), (4, .int (x4))] dX0_chooseAll_53 3 rfl hy26.symm (by decide) rfl ?_
        exact zx_lv [2, 3, 0, 4] [(0, .ref (x0)), (1, .long (x1)), (3, .int (y26)), (4, .int (x4))] rfl (j_X0_chooseAll_56 C htab hin hrc5   hm)
set_option maxRecDepth 100000 in
set_option maxHeartbeats 1000000 in
theorem c_X0_chooseAll {l : Launch} {D : va_G} {aC : Nat → ClassId} {b0 fu : Nat} {a0 : Nat} {p0 : Int64} {σ τ : tM} {v : Int32} (hm : m_X0_chooseAll b0 fu a0 p0 σ = some (v, τ)) : tMt l D aC b0 yX0_chooseAll (Cond.code yX0_chooseAll cX0_chooseAll 6 (some .int)) 0 0 [.ref (a0), .long (p0)] σ (.inl (some (.int v))) τ := by
  unfold m_X0_chooseAll at hm
  obtain ⟨hg, hm⟩ := grw_e hm
  refine tMt_of (n := 0) rfl (Nat.le_of_ble_eq_true rfl) hg ?_
  intro p e s m below meth c C htab hin
  refine zx_lv [0, 1] [(0, .ref (a0)), (1, .long (p0))] rfl ?_
  refine zx_iconst (v := 0) C dX0_chooseAll_0 (by decide) ?_
  refine zx_istore_n C [(3, .int (0)), (0, .ref (a0)), (1, .long (p0))] dX0_chooseAll_1 rfl (by decide) rfl ?_
  refine zx_iconst (v := 0) C dX0_chooseAll_2 (by decide) ?_
  refine zx_istore C [(4, .int (0)), (3, .int (0)), (0, .ref (a0)), (1, .long (p0))] dX0_chooseAll_3 (by decide) rfl ?_
  exact zx_lv [2, 3, 1, 0] [(0, .ref (a0)), (1, .long (p0)), (3, .int (0)), (4, .int (0))] rfl (l_X0_chooseAll_5 C htab hin  _ _ _ _ _ _ hm)
abbrev cX0_tagOf : ByteArray := prog_2_method_15_code
def yX0_tagOf : MethodName := ⟨"SyncTree$Disk", "tagOf", "(I)I"⟩
theorem Y_X0_tagOf : tY yX0_tagOf cX0_tagOf 2 (some .int) 1 := ⟨W_6_128, W_1_2, ⟨by decide +kernel, by decide +kernel⟩, by decide +kernel⟩
theorem dX0_tagOf_0 : decode cX0_tagOf 0 = .ok (.iload_n 1, 1) := by decide +kernel
theorem dX0_tagOf_1 : decode cX0_tagOf 1 = .ok (.ifCond .lt 11, 3) := by decide +kernel
theorem dX0_tagOf_4 : decode cX0_tagOf 4 = .ok (.iload_n 1, 1) := by decide +kernel
theorem dX0_tagOf_5 : decode cX0_tagOf 5 = .ok (.aload_n 0, 1) := by decide +kernel
theorem dX0_tagOf_6 : decode cX0_tagOf 6 = .ok (.getfield 40, 3) := by decide +kernel
theorem dX0_tagOf_9 : decode cX0_tagOf 9 = .ok (.if_icmp .lt 7, 3) := by decide +kernel
theorem dX0_tagOf_12 : decode cX0_tagOf 12 = .ok (.iconst 0, 1) := by decide +kernel
theorem dX0_tagOf_13 : decode cX0_tagOf 13 = .ok (.goto 9, 3) := by decide +kernel
theorem dX0_tagOf_16 : decode cX0_tagOf 16 = .ok (.aload_n 0, 1) := by decide +kernel
theorem dX0_tagOf_17 : decode cX0_tagOf 17 = .ok (.getfield 9, 3) := by decide +kernel
theorem dX0_tagOf_20 : decode cX0_tagOf 20 = .ok (.iload_n 1, 1) := by decide +kernel
theorem dX0_tagOf_21 : decode cX0_tagOf 21 = .ok (.iaload, 1) := by decide +kernel
theorem dX0_tagOf_22 : decode cX0_tagOf 22 = .ok (.ireturn, 1) := by decide +kernel
set_option maxRecDepth 100000 in
set_option maxHeartbeats 1000000 in
theorem j_X0_tagOf_22 {p : Program} {l : Launch} {e : Env} {s : State} {m : MethodId} {args : Array Value} {below : List Frame} {meth : Method} {c : Code} {D : va_G} {aC : Nat → ClassId} {b0 fu : Nat} {σ0 τ : tM} {v : Int32}  (C : tCx p l s m args meth c yX0_tagOf.cls cX0_tagOf 2 (some .int) D aC b0 σ0) (htab : ∀ x ∈ c.exceptionTable.toList, False) (hin : meth.name = yX0_tagOf.name)  {s0 : Int32} {σ : tM} (hm : J_X0_tagOf_22 b0 fu  s0 σ = some (v, τ)) : tX p l e s m args below meth c 2 0 0 D aC b0 σ0 (.inl (some (.int v))) τ 22 [] [.int (s0)] σ := by
  unfold J_X0_tagOf_22 at hm
  obtain ⟨rfl, rfl⟩ := ret_e hm
  exact zx_iret C rfl rfl rfl dX0_tagOf_22
set_option maxRecDepth 100000 in
set_option maxHeartbeats 1000000 in
theorem j_X0_tagOf_12 {p : Program} {l : Launch} {e : Env} {s : State} {m : MethodId} {args : Array Value} {below : List Frame} {meth : Method} {c : Code} {D : va_G} {aC : Nat → ClassId} {b0 fu : Nat} {σ0 τ : tM} {v : Int32}  (C : tCx p l s m args meth c yX0_tagOf.cls cX0_tagOf 2 (some .int) D aC b0 σ0) (htab : ∀ x ∈ c.exceptionTable.toList, False) (hin : meth.name = yX0_tagOf.name)   {σ : tM} (hm : J_X0_tagOf_12 b0 fu   σ = some (v, τ)) : tX p l e s m args below meth c 2 0 0 D aC b0 σ0 (.inl (some (.int v))) τ 12 [] [] σ := by
  unfold J_X0_tagOf_12 at hm
  refine zx_iconst (v := 0) C dX0_tagOf_12 (by decide) ?_
  refine zx_goto C 22 dX0_tagOf_13 (by decide) ?_
  exact zx_lv [] [] rfl (j_X0_tagOf_22 C htab hin    hm)
set_option maxRecDepth 100000 in
set_option maxHeartbeats 1000000 in
theorem c_X0_tagOf {l : Launch} {D : va_G} {aC : Nat → ClassId} {b0 fu : Nat} {a0 : Nat} {p0 : Int32} {σ τ : tM} {v : Int32} (hm : m_X0_tagOf b0 fu a0 p0 σ = some (v, τ)) : tMt l D aC b0 yX0_tagOf (Cond.code yX0_tagOf cX0_tagOf 2 (some .int)) 0 0 [.ref (a0), .int (p0)] σ (.inl (some (.int v))) τ := by
  unfold m_X0_tagOf at hm
  obtain ⟨hg, hm⟩ := grw_e hm
  refine tMt_of (n := 0) rfl (Nat.le_of_ble_eq_true rfl) hg ?_
  intro p e s m below meth c C htab hin
  refine zx_lv [0, 1] [(0, .ref (a0)), (1, .int (p0))] rfl ?_
  refine zx_iload_n C dX0_tagOf_0 1 rfl ?_
  refine zx_if_lt C 12 dX0_tagOf_1 (by decide) (fun c1 => ?_) (fun c1 => ?_)
  · replace hm := ip_e hm c1
    exact zx_lv [] [] rfl (j_X0_tagOf_12 C htab hin    hm)
  · replace hm := in_e hm c1
    refine zx_iload_n C dX0_tagOf_4 1 rfl ?_
    refine zx_aload_n C dX0_tagOf_5 0 rfl ?_
    obtain ⟨k2, i3, hm⟩ := ckO_e hm
    refine zx_get (j := 8) C tC_0 k2 i3 ⟨by decide, Or.inl W_1_44⟩ dX0_tagOf_6 (.int (tI (σ) (a0) 8)) rfl ?_
    refine zx_icmp_lt C 16 dX0_tagOf_9 (by decide) (fun c4 => ?_) (fun c4 => ?_)
    · replace hm := ip_e hm c4
      refine zx_aload_n C dX0_tagOf_16 0 rfl ?_
      obtain ⟨a5, h6, hm⟩ := osm_e hm
      refine zx_get (j := 0) C tC_0 k2 i3 ⟨by decide, Or.inl W_1_36⟩ dX0_tagOf_17 (.ref a5) (rf_s h6) ?_
      refine zx_iload_n C dX0_tagOf_20 1 rfl ?_
      obtain ⟨n9, k7, i8, hm⟩ := ckR_e hm
      obtain ⟨h10, hm⟩ := ckI_e hm
      refine zx_iald C k7 i8 h10 dX0_tagOf_21 ?_
      exact zx_lv [] [] rfl (j_X0_tagOf_22 C htab hin    hm)
    · replace hm := in_e hm c4
      exact zx_lv [] [] rfl (j_X0_tagOf_12 C htab hin    hm)
abbrev cX0_keptSince : ByteArray := prog_2_method_16_code
def yX0_keptSince : MethodName := ⟨"SyncTree$Disk", "keptSince", "(II)LSyncTree$Row;"⟩
theorem Y_X0_keptSince : tY yX0_keptSince cX0_keptSince 3 (some (.object "SyncTree$Row")) 2 := ⟨W_6_179, W_1_2, ⟨by decide +kernel, by decide +kernel⟩, by decide +kernel⟩
theorem dX0_keptSince_0 : decode cX0_keptSince 0 = .ok (.iload_n 1, 1) := by decide +kernel
theorem dX0_keptSince_1 : decode cX0_keptSince 1 = .ok (.ifCond .lt 21, 3) := by decide +kernel
theorem dX0_keptSince_4 : decode cX0_keptSince 4 = .ok (.iload_n 1, 1) := by decide +kernel
theorem dX0_keptSince_5 : decode cX0_keptSince 5 = .ok (.aload_n 0, 1) := by decide +kernel
theorem dX0_keptSince_6 : decode cX0_keptSince 6 = .ok (.getfield 40, 3) := by decide +kernel
theorem dX0_keptSince_9 : decode cX0_keptSince 9 = .ok (.if_icmp .ge 13, 3) := by decide +kernel
theorem dX0_keptSince_12 : decode cX0_keptSince 12 = .ok (.aload_n 0, 1) := by decide +kernel
theorem dX0_keptSince_13 : decode cX0_keptSince 13 = .ok (.getfield 9, 3) := by decide +kernel
theorem dX0_keptSince_16 : decode cX0_keptSince 16 = .ok (.iload_n 1, 1) := by decide +kernel
theorem dX0_keptSince_17 : decode cX0_keptSince 17 = .ok (.iaload, 1) := by decide +kernel
theorem dX0_keptSince_18 : decode cX0_keptSince 18 = .ok (.iload_n 2, 1) := by decide +kernel
theorem dX0_keptSince_19 : decode cX0_keptSince 19 = .ok (.if_icmp .eq 7, 3) := by decide +kernel
theorem dX0_keptSince_22 : decode cX0_keptSince 22 = .ok (.aconst_null, 1) := by decide +kernel
theorem dX0_keptSince_23 : decode cX0_keptSince 23 = .ok (.goto 9, 3) := by decide +kernel
theorem dX0_keptSince_26 : decode cX0_keptSince 26 = .ok (.aload_n 0, 1) := by decide +kernel
theorem dX0_keptSince_27 : decode cX0_keptSince 27 = .ok (.getfield 17, 3) := by decide +kernel
theorem dX0_keptSince_30 : decode cX0_keptSince 30 = .ok (.iload_n 1, 1) := by decide +kernel
theorem dX0_keptSince_31 : decode cX0_keptSince 31 = .ok (.aaload, 1) := by decide +kernel
theorem dX0_keptSince_32 : decode cX0_keptSince 32 = .ok (.areturn, 1) := by decide +kernel
set_option maxRecDepth 100000 in
set_option maxHeartbeats 1000000 in
theorem j_X0_keptSince_32 {p : Program} {l : Launch} {e : Env} {s : State} {m : MethodId} {args : Array Value} {below : List Frame} {meth : Method} {c : Code} {D : va_G} {aC : Nat → ClassId} {b0 fu : Nat} {σ0 τ : tM} {v : Option Nat}  (C : tCx p l s m args meth c yX0_keptSince.cls cX0_keptSince 3 (some (.object "SyncTree$Row")) D aC b0 σ0) (htab : ∀ x ∈ c.exceptionTable.toList, False) (hin : meth.name = yX0_keptSince.name)  {s0 : Option Nat} {σ : tM} (hm : J_X0_keptSince_32 b0 fu  s0 σ = some (v, τ)) : tX p l e s m args below meth c 3 0 0 D aC b0 σ0 (.inl (some (va_rf v))) τ 32 [] [va_rf (s0)] σ := by
  unfold J_X0_keptSince_32 at hm
  obtain ⟨rfl, rfl⟩ := ret_e hm
  exact zx_aret (x := s0) C rfl (Or.inl ⟨_, rfl⟩) rfl rfl dX0_keptSince_32
set_option maxRecDepth 100000 in
set_option maxHeartbeats 1000000 in
theorem j_X0_keptSince_22 {p : Program} {l : Launch} {e : Env} {s : State} {m : MethodId} {args : Array Value} {below : List Frame} {meth : Method} {c : Code} {D : va_G} {aC : Nat → ClassId} {b0 fu : Nat} {σ0 τ : tM} {v : Option Nat}  (C : tCx p l s m args meth c yX0_keptSince.cls cX0_keptSince 3 (some (.object "SyncTree$Row")) D aC b0 σ0) (htab : ∀ x ∈ c.exceptionTable.toList, False) (hin : meth.name = yX0_keptSince.name)   {σ : tM} (hm : J_X0_keptSince_22 b0 fu   σ = some (v, τ)) : tX p l e s m args below meth c 3 0 0 D aC b0 σ0 (.inl (some (va_rf v))) τ 22 [] [] σ := by
  unfold J_X0_keptSince_22 at hm
  refine zx_null C dX0_keptSince_22 ?_
  refine zx_goto C 32 dX0_keptSince_23 (by decide) ?_
  exact zx_lv [] [] rfl (j_X0_keptSince_32 C htab hin    hm)
set_option maxRecDepth 100000 in
set_option maxHeartbeats 1000000 in
theorem c_X0_keptSince {l : Launch} {D : va_G} {aC : Nat → ClassId} {b0 fu : Nat} {a0 : Nat} {p0 : Int32} {p1 : Int32} {σ τ : tM} {v : Option Nat} (hm : m_X0_keptSince b0 fu a0 p0 p1 σ = some (v, τ)) : tMt l D aC b0 yX0_keptSince (Cond.code yX0_keptSince cX0_keptSince 3 (some (.object "SyncTree$Row"))) 0 0 [.ref (a0), .int (p0), .int (p1)] σ (.inl (some (va_rf v))) τ := by
  unfold m_X0_keptSince at hm
  obtain ⟨hg, hm⟩ := grw_e hm
  refine tMt_of (n := 0) rfl (Nat.le_of_ble_eq_true rfl) hg ?_
  intro p e s m below meth c C htab hin
  refine zx_lv [0, 1, 2] [(0, .ref (a0)), (1, .int (p0)), (2, .int (p1))] rfl ?_
  refine zx_iload_n C dX0_keptSince_0 1 rfl ?_
  refine zx_if_lt C 22 dX0_keptSince_1 (by decide) (fun c1 => ?_) (fun c1 => ?_)
  · replace hm := ip_e hm c1
    exact zx_lv [] [] rfl (j_X0_keptSince_22 C htab hin    hm)
  · replace hm := in_e hm c1
    refine zx_iload_n C dX0_keptSince_4 1 rfl ?_
    refine zx_aload_n C dX0_keptSince_5 0 rfl ?_
    obtain ⟨k2, i3, hm⟩ := ckO_e hm
    refine zx_get (j := 8) C tC_0 k2 i3 ⟨by decide, Or.inl W_1_44⟩ dX0_keptSince_6 (.int (tI (σ) (a0) 8)) rfl ?_
    refine zx_icmp_ge C 22 dX0_keptSince_9 (by decide) (fun c4 => ?_) (fun c4 => ?_)
    · replace hm := ip_e hm c4
      exact zx_lv [] [] rfl (j_X0_keptSince_22 C htab hin    hm)
    · replace hm := in_e hm c4
      refine zx_aload_n C dX0_keptSince_12 0 rfl ?_
      obtain ⟨a5, h6, hm⟩ := osm_e hm
      refine zx_get (j := 0) C tC_0 k2 i3 ⟨by decide, Or.inl W_1_36⟩ dX0_keptSince_13 (.ref a5) (rf_s h6) ?_
      refine zx_iload_n C dX0_keptSince_16 1 rfl ?_
      obtain ⟨n9, k7, i8, hm⟩ := ckR_e hm
      obtain ⟨h10, hm⟩ := ckI_e hm
      refine zx_iald C k7 i8 h10 dX0_keptSince_17 ?_
      refine zx_iload_n C dX0_keptSince_18 2 rfl ?_
      refine zx_icmp_eq C 26 dX0_keptSince_19 (by decide) (fun c11 => ?_) (fun c11 => ?_)
      · replace hm := ip_e hm c11
        refine zx_aload_n C dX0_keptSince_26 0 rfl ?_
        obtain ⟨a12, h13, hm⟩ := osm_e hm
        refine zx_get (j := 1) C tC_0 k2 i3 ⟨by decide, Or.inl W_1_37⟩ dX0_keptSince_27 (.ref a12) (rf_s h13) ?_
        refine zx_iload_n C dX0_keptSince_30 1 rfl ?_
        obtain ⟨n16, k14, i15, hm⟩ := ckR_e hm
        obtain ⟨h17, hm⟩ := ckI_e hm
        rcases omt_e hm with ⟨a18, h19, hm⟩ | ⟨h19, hm⟩
        · refine zx_aald C k14 i15 h17 dX0_keptSince_31 (.ref a18) (rf_s h19) ?_
          exact zx_lv [] [] rfl (j_X0_keptSince_32 C htab hin    hm)
        · refine zx_aald C k14 i15 h17 dX0_keptSince_31 .null (rf_n h19) ?_
          exact zx_lv [] [] rfl (j_X0_keptSince_32 C htab hin    hm)
      · replace hm := in_e hm c11
        exact zx_lv [] [] rfl (j_X0_keptSince_22 C htab hin    hm)
abbrev cX0_figure : ByteArray := prog_2_method_17_code
def yX0_figure : MethodName := ⟨"SyncTree$Disk", "figure", "(I)I"⟩
theorem Y_X0_figure : tY yX0_figure cX0_figure 2 (some .int) 1 := ⟨W_3_74, W_1_2, ⟨by decide +kernel, by decide +kernel⟩, by decide +kernel⟩
theorem dX0_figure_0 : decode cX0_figure 0 = .ok (.iload_n 1, 1) := by decide +kernel
theorem dX0_figure_1 : decode cX0_figure 1 = .ok (.tableswitch 59 0 3 #[31, 44, 49, 54], 31) := by decide +kernel
theorem dX0_figure_32 : decode cX0_figure 32 = .ok (.aload_n 0, 1) := by decide +kernel
theorem dX0_figure_33 : decode cX0_figure 33 = .ok (.getfield 68, 3) := by decide +kernel
theorem dX0_figure_36 : decode cX0_figure 36 = .ok (.ifCond .eq 7, 3) := by decide +kernel
theorem dX0_figure_39 : decode cX0_figure 39 = .ok (.iconst 1, 1) := by decide +kernel
theorem dX0_figure_40 : decode cX0_figure 40 = .ok (.goto 4, 3) := by decide +kernel
theorem dX0_figure_43 : decode cX0_figure 43 = .ok (.iconst 0, 1) := by decide +kernel
theorem dX0_figure_44 : decode cX0_figure 44 = .ok (.ireturn, 1) := by decide +kernel
theorem dX0_figure_45 : decode cX0_figure 45 = .ok (.aload_n 0, 1) := by decide +kernel
theorem dX0_figure_46 : decode cX0_figure 46 = .ok (.getfield 56, 3) := by decide +kernel
theorem dX0_figure_49 : decode cX0_figure 49 = .ok (.ireturn, 1) := by decide +kernel
theorem dX0_figure_50 : decode cX0_figure 50 = .ok (.aload_n 0, 1) := by decide +kernel
theorem dX0_figure_51 : decode cX0_figure 51 = .ok (.getfield 59, 3) := by decide +kernel
theorem dX0_figure_54 : decode cX0_figure 54 = .ok (.ireturn, 1) := by decide +kernel
theorem dX0_figure_55 : decode cX0_figure 55 = .ok (.aload_n 0, 1) := by decide +kernel
theorem dX0_figure_56 : decode cX0_figure 56 = .ok (.getfield 62, 3) := by decide +kernel
theorem dX0_figure_59 : decode cX0_figure 59 = .ok (.ireturn, 1) := by decide +kernel
theorem dX0_figure_60 : decode cX0_figure 60 = .ok (.aload_n 0, 1) := by decide +kernel
theorem dX0_figure_61 : decode cX0_figure 61 = .ok (.getfield 65, 3) := by decide +kernel
theorem dX0_figure_64 : decode cX0_figure 64 = .ok (.ireturn, 1) := by decide +kernel
set_option maxRecDepth 100000 in
set_option maxHeartbeats 1000000 in
theorem j_X0_figure_44 {p : Program} {l : Launch} {e : Env} {s : State} {m : MethodId} {args : Array Value} {below : List Frame} {meth : Method} {c : Code} {D : va_G} {aC : Nat → ClassId} {b0 fu : Nat} {σ0 τ : tM} {v : Int32}  (C : tCx p l s m args meth c yX0_figure.cls cX0_figure 2 (some .int) D aC b0 σ0) (htab : ∀ x ∈ c.exceptionTable.toList, False) (hin : meth.name = yX0_figure.name)  {s0 : Int32} {σ : tM} (hm : J_X0_figure_44 b0 fu  s0 σ = some (v, τ)) : tX p l e s m args below meth c 2 0 0 D aC b0 σ0 (.inl (some (.int v))) τ 44 [] [.int (s0)] σ := by
  unfold J_X0_figure_44 at hm
  obtain ⟨rfl, rfl⟩ := ret_e hm
  exact zx_iret C rfl rfl rfl dX0_figure_44
set_option maxRecDepth 100000 in
set_option maxHeartbeats 1000000 in
theorem c_X0_figure {l : Launch} {D : va_G} {aC : Nat → ClassId} {b0 fu : Nat} {a0 : Nat} {p0 : Int32} {σ τ : tM} {v : Int32} (hm : m_X0_figure b0 fu a0 p0 σ = some (v, τ)) : tMt l D aC b0 yX0_figure (Cond.code yX0_figure cX0_figure 2 (some .int)) 0 0 [.ref (a0), .int (p0)] σ (.inl (some (.int v))) τ := by
  unfold m_X0_figure at hm
  obtain ⟨hg, hm⟩ := grw_e hm
  refine tMt_of (n := 0) rfl (Nat.le_of_ble_eq_true rfl) hg ?_
  intro p e s m below meth c C htab hin
  refine zx_lv [0, 1] [(0, .ref (a0)), (1, .int (p0))] rfl ?_
  refine zx_iload_n C dX0_figure_0 1 rfl ?_
  rcases Classical.em ((p0) = (0)) with c1_0 | c1_0
  · replace hm := ip_e hm c1_0
    refine zx_tabIn (off := 31) C 32 dX0_figure_1 (by rw [c1_0]; decide) (by rw [c1_0]; decide) (by rw [c1_0]; decide) (by decide) ?_
    refine zx_aload_n C dX0_figure_32 0 rfl ?_
    obtain ⟨k1, i2, hm⟩ := ckO_e hm
    refine zx_get (j := 14) C tC_0 k1 i2 ⟨by decide, Or.inl W_1_52⟩ dX0_figure_33 (.int (tI (σ) (a0) 14)) rfl ?_
    refine zx_if_eq C 43 dX0_figure_36 (by decide) (fun c3 => ?_) (fun c3 => ?_)
    · replace hm := ip_e hm c3
      refine zx_iconst (v := 0) C dX0_figure_43 (by decide) ?_
      exact zx_lv [] [] rfl (j_X0_figure_44 C htab hin    hm)
    · replace hm := in_e hm c3
      refine zx_iconst (v := 1) C dX0_figure_39 (by decide) ?_
      refine zx_goto C 44 dX0_figure_40 (by decide) ?_
      exact zx_lv [] [] rfl (j_X0_figure_44 C htab hin    hm)
  · replace hm := in_e hm c1_0
    rcases Classical.em ((p0) = (1)) with c1_1 | c1_1
    · replace hm := ip_e hm c1_1
      refine zx_tabIn (off := 44) C 45 dX0_figure_1 (by rw [c1_1]; decide) (by rw [c1_1]; decide) (by rw [c1_1]; decide) (by decide) ?_
      refine zx_aload_n C dX0_figure_45 0 rfl ?_
      obtain ⟨k4, i5, hm⟩ := ckO_e hm
      refine zx_get (j := 10) C tC_0 k4 i5 ⟨by decide, Or.inl W_1_46⟩ dX0_figure_46 (.int (tI (σ) (a0) 10)) rfl ?_
      obtain ⟨rfl, rfl⟩ := ret_e hm
      exact zx_iret C rfl rfl rfl dX0_figure_49
    · replace hm := in_e hm c1_1
      rcases Classical.em ((p0) = (2)) with c1_2 | c1_2
      · replace hm := ip_e hm c1_2
        refine zx_tabIn (off := 49) C 50 dX0_figure_1 (by rw [c1_2]; decide) (by rw [c1_2]; decide) (by rw [c1_2]; decide) (by decide) ?_
        refine zx_aload_n C dX0_figure_50 0 rfl ?_
        obtain ⟨k6, i7, hm⟩ := ckO_e hm
        refine zx_get (j := 11) C tC_0 k6 i7 ⟨by decide, Or.inl W_1_48⟩ dX0_figure_51 (.int (tI (σ) (a0) 11)) rfl ?_
        obtain ⟨rfl, rfl⟩ := ret_e hm
        exact zx_iret C rfl rfl rfl dX0_figure_54
      · replace hm := in_e hm c1_2
        rcases Classical.em ((p0) = (3)) with c1_3 | c1_3
        · replace hm := ip_e hm c1_3
          refine zx_tabIn (off := 54) C 55 dX0_figure_1 (by rw [c1_3]; decide) (by rw [c1_3]; decide) (by rw [c1_3]; decide) (by decide) ?_
          refine zx_aload_n C dX0_figure_55 0 rfl ?_
          obtain ⟨k8, i9, hm⟩ := ckO_e hm
          refine zx_get (j := 12) C tC_0 k8 i9 ⟨by decide, Or.inl W_1_49⟩ dX0_figure_56 (.int (tI (σ) (a0) 12)) rfl ?_
          obtain ⟨rfl, rfl⟩ := ret_e hm
          exact zx_iret C rfl rfl rfl dX0_figure_59
        · replace hm := in_e hm c1_3
          have g1_0 : (p0).toInt ≠ 0 := fun e9 => c1_0 (Int32.toInt_inj.mp (e9.trans (by decide)))
          have g1_1 : (p0).toInt ≠ 1 := fun e9 => c1_1 (Int32.toInt_inj.mp (e9.trans (by decide)))
          have g1_2 : (p0).toInt ≠ 2 := fun e9 => c1_2 (Int32.toInt_inj.mp (e9.trans (by decide)))
          have g1_3 : (p0).toInt ≠ 3 := fun e9 => c1_3 (Int32.toInt_inj.mp (e9.trans (by decide)))
          refine zx_tabOut C 60 dX0_figure_1 (by omega) (by decide) ?_
          refine zx_aload_n C dX0_figure_60 0 rfl ?_
          obtain ⟨k10, i11, hm⟩ := ckO_e hm
          refine zx_get (j := 13) C tC_0 k10 i11 ⟨by decide, Or.inl W_1_50⟩ dX0_figure_61 (.int (tI (σ) (a0) 13)) rfl ?_
          obtain ⟨rfl, rfl⟩ := ret_e hm
          exact zx_iret C rfl rfl rfl dX0_figure_64
abbrev cX1_init : ByteArray := prog_3_method_1_code
def yX1_init : MethodName := ⟨"SyncTree$Journal", "<init>", "(LSyncTree$Disk;LSyncTree$Space;LSyncTree$Tree;)V"⟩
theorem Y_X1_init : tY yX1_init cX1_init 4 none 3 := ⟨W_1_177, W_1_5, ⟨by decide +kernel, by decide +kernel⟩, by decide +kernel⟩
theorem dX1_init_0 : decode cX1_init 0 = .ok (.aload_n 0, 1) := by decide +kernel
theorem dX1_init_1 : decode cX1_init 1 = .ok (.invokespecial 3, 3) := by decide +kernel
theorem dX1_init_4 : decode cX1_init 4 = .ok (.aload_n 0, 1) := by decide +kernel
theorem dX1_init_5 : decode cX1_init 5 = .ok (.sipush 2034, 3) := by decide +kernel
theorem dX1_init_8 : decode cX1_init 8 = .ok (.anewarray 9, 3) := by decide +kernel
theorem dX1_init_11 : decode cX1_init 11 = .ok (.putfield 11, 3) := by decide +kernel
theorem dX1_init_14 : decode cX1_init 14 = .ok (.aload_n 0, 1) := by decide +kernel
theorem dX1_init_15 : decode cX1_init 15 = .ok (.sipush 2034, 3) := by decide +kernel
theorem dX1_init_18 : decode cX1_init 18 = .ok (.newarray .byte, 2) := by decide +kernel
theorem dX1_init_20 : decode cX1_init 20 = .ok (.putfield 17, 3) := by decide +kernel
theorem dX1_init_23 : decode cX1_init 23 = .ok (.aload_n 0, 1) := by decide +kernel
theorem dX1_init_24 : decode cX1_init 24 = .ok (.aload_n 1, 1) := by decide +kernel
theorem dX1_init_25 : decode cX1_init 25 = .ok (.putfield 21, 3) := by decide +kernel
theorem dX1_init_28 : decode cX1_init 28 = .ok (.aload_n 0, 1) := by decide +kernel
theorem dX1_init_29 : decode cX1_init 29 = .ok (.aload_n 2, 1) := by decide +kernel
theorem dX1_init_30 : decode cX1_init 30 = .ok (.putfield 25, 3) := by decide +kernel
theorem dX1_init_33 : decode cX1_init 33 = .ok (.aload_n 0, 1) := by decide +kernel
theorem dX1_init_34 : decode cX1_init 34 = .ok (.aload_n 3, 1) := by decide +kernel
theorem dX1_init_35 : decode cX1_init 35 = .ok (.putfield 29, 3) := by decide +kernel
theorem dX1_init_38 : decode cX1_init 38 = .ok (.return_, 1) := by decide +kernel
set_option maxRecDepth 100000 in
set_option maxHeartbeats 1000000 in
theorem c_X1_init {l : Launch} {D : va_G} {aC : Nat → ClassId} {b0 fu : Nat} {a0 : Nat} {p0 : Nat} {p1 : Nat} {p2 : Nat} {σ τ : tM} {v : Unit} (hm : m_X1_init b0 fu a0 p0 p1 p2 σ = some (v, τ)) : tMt l D aC b0 yX1_init (Cond.code yX1_init cX1_init 4 none) 1 20 [.ref (a0), .ref (p0), .ref (p1), .ref (p2)] σ (.inl none) τ := by
  unfold m_X1_init at hm
  obtain ⟨hg, hm⟩ := grw_e hm
  refine tMt_of (n := 0) rfl (Nat.le_of_ble_eq_true rfl) hg ?_
  intro p e s m below meth c C htab hin
  refine zx_lv [0, 1, 2, 3] [(0, .ref (a0)), (1, .ref (p0)), (2, .ref (p1)), (3, .ref (p2))] rfl ?_
  refine zx_aload_n C dX1_init_0 0 rfl ?_
  refine zx_obj C W_1_178 W_1_26 W_1_27 (by decide) (by decide) (Nat.le_of_ble_eq_true rfl) dX1_init_1 ?_
  refine zx_aload_n C dX1_init_4 0 rfl ?_
  refine zx_sipush (v := 2034) C dX1_init_5 (by decide) ?_
  refine zx_newR C W_1_179 W_1_35 (by decide) (by decide) dX1_init_8 ?_
  refine zx_mem (fun ρ1 hρ1 => ?_)
  replace hm := ltb_e hm hρ1
  have k2 : tk ρ1 (b0 + tn σ) = .inr (4, ((2034 : Int32)).toNatClampNeg) := by rw [hρ1]; exact sN_k _ _ _ _
  have i3 : tIn b0 ρ1 (b0 + tn σ) := by rw [hρ1]; exact sN_i _ _ _ _
  obtain ⟨k4, i5, hm⟩ := ckO_e hm
  refine zx_putF (j := 3) (ρ := sA (ρ1) (a0) 3 (some (b0 + tn σ))) C hin tC_1 k4 i5 (by decide) W_1_183 rfl rfl rfl rfl (sA_ok (fun _ => rfl)) dX1_init_11 ?_
  refine zx_aload_n C dX1_init_14 0 rfl ?_
  refine zx_sipush (v := 2034) C dX1_init_15 (by decide) ?_
  refine zx_newB C W_1_156 (by decide) (by decide) dX1_init_18 ?_
  refine zx_mem (fun ρ6 hρ6 => ?_)
  replace hm := ltb_e hm hρ6
  have k7 : tk ρ6 (b0 + tn ρ1) = .inr (1, ((2034 : Int32)).toNatClampNeg) := by rw [hρ6]; exact sN_k _ _ _ _
  have i8 : tIn b0 ρ6 (b0 + tn ρ1) := by rw [hρ6]; exact sN_i _ _ _ _
  obtain ⟨k9, i10, hm⟩ := ckO_e hm
  refine zx_putF (j := 4) (ρ := sA (ρ6) (a0) 4 (some (b0 + tn ρ1))) C hin tC_1 k9 i10 (by decide) W_1_184 rfl rfl rfl rfl (sA_ok (fun _ => rfl)) dX1_init_20 ?_
  refine zx_aload_n C dX1_init_23 0 rfl ?_
  refine zx_aload_n C dX1_init_24 1 rfl ?_
  refine zx_putF (j := 0) (ρ := sA (sA (ρ6) (a0) 4 (some (b0 + tn ρ1))) (a0) 0 (some (p0))) C hin tC_1 k9 i10 (by decide) W_1_180 rfl rfl rfl rfl (sA_ok (fun _ => rfl)) dX1_init_25 ?_
  refine zx_aload_n C dX1_init_28 0 rfl ?_
  refine zx_aload_n C dX1_init_29 2 rfl ?_
  refine zx_putF (j := 1) (ρ := sA (sA (sA (ρ6) (a0) 4 (some (b0 + tn ρ1))) (a0) 0 (some (p0))) (a0) 1 (some (p1))) C hin tC_1 k9 i10 (by decide) W_1_181 rfl rfl rfl rfl (sA_ok (fun _ => rfl)) dX1_init_30 ?_
  refine zx_aload_n C dX1_init_33 0 rfl ?_
  refine zx_aload_n C dX1_init_34 3 rfl ?_
  refine zx_putF (j := 2) (ρ := sA (sA (sA (sA (ρ6) (a0) 4 (some (b0 + tn ρ1))) (a0) 0 (some (p0))) (a0) 1 (some (p1))) (a0) 2 (some (p2))) C hin tC_1 k9 i10 (by decide) W_1_182 rfl rfl rfl rfl (sA_ok (fun _ => rfl)) dX1_init_35 ?_
  obtain ⟨rfl, rfl⟩ := ret_e hm
  exact zx_vret C rfl rfl rfl dX1_init_38
