abbrev cX6_canBePath : ByteArray := prog_8_method_6_code
def yX6_canBePath : MethodName := ⟨"SyncTree$Tape", "canBePath", "(I)Z"⟩
theorem Y_X6_canBePath : tY yX6_canBePath cX6_canBePath 3 (some .boolean) 1 := ⟨W_3_27, W_1_8, ⟨by decide +kernel, by decide +kernel⟩, by decide +kernel⟩
theorem dX6_canBePath_0 : decode cX6_canBePath 0 = .ok (.iload_n 1, 1) := by decide +kernel
theorem dX6_canBePath_1 : decode cX6_canBePath 1 = .ok (.ifCond .lt 17, 3) := by decide +kernel
theorem dX6_canBePath_4 : decode cX6_canBePath 4 = .ok (.iload_n 1, 1) := by decide +kernel
theorem dX6_canBePath_5 : decode cX6_canBePath 5 = .ok (.bipush 120, 2) := by decide +kernel
theorem dX6_canBePath_7 : decode cX6_canBePath 7 = .ok (.if_icmp .gt 11, 3) := by decide +kernel
theorem dX6_canBePath_10 : decode cX6_canBePath 10 = .ok (.iload_n 1, 1) := by decide +kernel
theorem dX6_canBePath_11 : decode cX6_canBePath 11 = .ok (.aload_n 0, 1) := by decide +kernel
theorem dX6_canBePath_12 : decode cX6_canBePath 12 = .ok (.getfield 15, 3) := by decide +kernel
theorem dX6_canBePath_15 : decode cX6_canBePath 15 = .ok (.if_icmp .le 5, 3) := by decide +kernel
theorem dX6_canBePath_18 : decode cX6_canBePath 18 = .ok (.iconst 0, 1) := by decide +kernel
theorem dX6_canBePath_19 : decode cX6_canBePath 19 = .ok (.ireturn, 1) := by decide +kernel
theorem dX6_canBePath_20 : decode cX6_canBePath 20 = .ok (.iconst 0, 1) := by decide +kernel
theorem dX6_canBePath_21 : decode cX6_canBePath 21 = .ok (.istore_n 2, 1) := by decide +kernel
theorem dX6_canBePath_22 : decode cX6_canBePath 22 = .ok (.iload_n 2, 1) := by decide +kernel
theorem dX6_canBePath_23 : decode cX6_canBePath 23 = .ok (.iload_n 1, 1) := by decide +kernel
theorem dX6_canBePath_24 : decode cX6_canBePath 24 = .ok (.if_icmp .ge 33, 3) := by decide +kernel
theorem dX6_canBePath_27 : decode cX6_canBePath 27 = .ok (.aload_n 0, 1) := by decide +kernel
theorem dX6_canBePath_28 : decode cX6_canBePath 28 = .ok (.getfield 11, 3) := by decide +kernel
theorem dX6_canBePath_31 : decode cX6_canBePath 31 = .ok (.iload_n 2, 1) := by decide +kernel
theorem dX6_canBePath_32 : decode cX6_canBePath 32 = .ok (.baload, 1) := by decide +kernel
theorem dX6_canBePath_33 : decode cX6_canBePath 33 = .ok (.bipush 33, 2) := by decide +kernel
theorem dX6_canBePath_35 : decode cX6_canBePath 35 = .ok (.if_icmp .lt 14, 3) := by decide +kernel
theorem dX6_canBePath_38 : decode cX6_canBePath 38 = .ok (.aload_n 0, 1) := by decide +kernel
theorem dX6_canBePath_39 : decode cX6_canBePath 39 = .ok (.getfield 11, 3) := by decide +kernel
theorem dX6_canBePath_42 : decode cX6_canBePath 42 = .ok (.iload_n 2, 1) := by decide +kernel
theorem dX6_canBePath_43 : decode cX6_canBePath 43 = .ok (.baload, 1) := by decide +kernel
theorem dX6_canBePath_44 : decode cX6_canBePath 44 = .ok (.bipush 126, 2) := by decide +kernel
theorem dX6_canBePath_46 : decode cX6_canBePath 46 = .ok (.if_icmp .le 5, 3) := by decide +kernel
theorem dX6_canBePath_49 : decode cX6_canBePath 49 = .ok (.iconst 0, 1) := by decide +kernel
theorem dX6_canBePath_50 : decode cX6_canBePath 50 = .ok (.ireturn, 1) := by decide +kernel
theorem dX6_canBePath_51 : decode cX6_canBePath 51 = .ok (.iinc 2 1, 3) := by decide +kernel
theorem dX6_canBePath_54 : decode cX6_canBePath 54 = .ok (.goto (-32), 3) := by decide +kernel
theorem dX6_canBePath_57 : decode cX6_canBePath 57 = .ok (.iconst 1, 1) := by decide +kernel
theorem dX6_canBePath_58 : decode cX6_canBePath 58 = .ok (.ireturn, 1) := by decide +kernel
set_option maxRecDepth 100000 in
set_option maxHeartbeats 1000000 in
theorem j_X6_canBePath_18 {p : Program} {l : Launch} {e : Env} {s : State} {m : MethodId} {args : Array Value} {below : List Frame} {meth : Method} {c : Code} {D : va_G} {aC : Nat → ClassId} {b0 fu : Nat} {σ0 τ : tM} {v : Int32}  (C : tCx p l s m args meth c yX6_canBePath.cls cX6_canBePath 3 (some .boolean) D aC b0 σ0) (htab : ∀ x ∈ c.exceptionTable.toList, False) (hin : meth.name = yX6_canBePath.name)   {σ : tM} (hm : J_X6_canBePath_18 b0 fu   σ = some (v, τ)) : tX p l e s m args below meth c 3 0 0 D aC b0 σ0 (.inl (some (.int v))) τ 18 [] [] σ := by
  unfold J_X6_canBePath_18 at hm
  refine zx_iconst (v := 0) C dX6_canBePath_18 (by decide) ?_
  obtain ⟨rfl, rfl⟩ := ret_e hm
  exact zx_zret C rfl (by decide) rfl rfl dX6_canBePath_19
set_option maxRecDepth 100000 in
set_option maxHeartbeats 1000000 in
theorem j_X6_canBePath_49 {p : Program} {l : Launch} {e : Env} {s : State} {m : MethodId} {args : Array Value} {below : List Frame} {meth : Method} {c : Code} {D : va_G} {aC : Nat → ClassId} {b0 fu : Nat} {σ0 τ : tM} {v : Int32}  (C : tCx p l s m args meth c yX6_canBePath.cls cX6_canBePath 3 (some .boolean) D aC b0 σ0) (htab : ∀ x ∈ c.exceptionTable.toList, False) (hin : meth.name = yX6_canBePath.name)   {σ : tM} (hm : J_X6_canBePath_49 b0 fu   σ = some (v, τ)) : tX p l e s m args below meth c 3 0 0 D aC b0 σ0 (.inl (some (.int v))) τ 49 [] [] σ := by
  unfold J_X6_canBePath_49 at hm
  refine zx_iconst (v := 0) C dX6_canBePath_49 (by decide) ?_
  obtain ⟨rfl, rfl⟩ := ret_e hm
  exact zx_zret C rfl (by decide) rfl rfl dX6_canBePath_50
set_option maxRecDepth 100000 in
set_option maxHeartbeats 1000000 in
theorem l_X6_canBePath_22 {p : Program} {l : Launch} {e : Env} {s : State} {m : MethodId} {args : Array Value} {below : List Frame} {meth : Method} {c : Code} {D : va_G} {aC : Nat → ClassId} {b0 fu : Nat} {σ0 τ : tM} {v : Int32}  (C : tCx p l s m args meth c yX6_canBePath.cls cX6_canBePath 3 (some .boolean) D aC b0 σ0) (htab : ∀ x ∈ c.exceptionTable.toList, False) (hin : meth.name = yX6_canBePath.name)  : ∀ (n : Nat) (x0 : Nat) (x1 : Int32) (x2 : Int32) (σ : tM), L_X6_canBePath_22 b0 fu  n x0 x1 x2 σ = some (v, τ) → tX p l e s m args below meth c 3 0 0 D aC b0 σ0 (.inl (some (.int v))) τ 22 [(0, .ref (x0)), (1, .int (x1)), (2, .int (x2))] [] σ := by
  intro n
  induction n with
  | zero => intro x0 x1 x2 σ hm; unfold L_X6_canBePath_22 at hm; cases hm
  | succ n ih =>
    intro x0 x1 x2 σ hm
    unfold L_X6_canBePath_22 at hm
    obtain ⟨rc22, hrc⟩ : ∃ z, z = L_X6_canBePath_22 b0 fu  n := ⟨_, rfl⟩
    replace hm := ltb_e hm hrc
    rw [← hrc] at ih
    have hrc22 := ih
    clear ih hrc
    refine zx_iload_n C dX6_canBePath_22 2 rfl ?_
    refine zx_iload_n C dX6_canBePath_23 1 rfl ?_
    refine zx_icmp_ge C 57 dX6_canBePath_24 (by decide) (fun c6 => ?_) (fun c6 => ?_)
    · replace hm := ip_e hm c6
      refine zx_iconst (v := 1) C dX6_canBePath_57 (by decide) ?_
      obtain ⟨rfl, rfl⟩ := ret_e hm
      exact zx_zret C rfl (by decide) rfl rfl dX6_canBePath_58
    · replace hm := in_e hm c6
      refine zx_aload_n C dX6_canBePath_27 0 rfl ?_
      obtain ⟨k7, i8, hm⟩ := ckO_e hm
      obtain ⟨a9, h10, hm⟩ := osm_e hm
      refine zx_get (j := 0) C tC_6 k7 i8 ⟨by decide, Or.inl W_2_42⟩ dX6_canBePath_28 (.ref a9) (rf_s h10) ?_
      refine zx_iload_n C dX6_canBePath_31 2 rfl ?_
      obtain ⟨n13, k11, i12, hm⟩ := ckR_e hm
      obtain ⟨h14, hm⟩ := ckI_e hm
      refine zx_bald C k11 i12 h14 dX6_canBePath_32 ?_
      refine zx_bipush (v := 33) C dX6_canBePath_33 (by decide) ?_
      refine zx_icmp_lt C 49 dX6_canBePath_35 (by decide) (fun c15 => ?_) (fun c15 => ?_)
      · replace hm := ip_e hm c15
        exact zx_lv [] [] rfl (j_X6_canBePath_49 C htab hin    hm)
      · replace hm := in_e hm c15
        refine zx_aload_n C dX6_canBePath_38 0 rfl ?_
        obtain ⟨a16, h17, hm⟩ := osm_e hm
        refine zx_get (j := 0) C tC_6 k7 i8 ⟨by decide, Or.inl W_2_42⟩ dX6_canBePath_39 (.ref a16) (rf_s h17) ?_
        refine zx_iload_n C dX6_canBePath_42 2 rfl ?_
        obtain ⟨n20, k18, i19, hm⟩ := ckR_e hm
        obtain ⟨h21, hm⟩ := ckI_e hm
        refine zx_bald C k18 i19 h21 dX6_canBePath_43 ?_
        refine zx_bipush (v := 126) C dX6_canBePath_44 (by decide) ?_
        refine zx_icmp_le C 51 dX6_canBePath_46 (by decide) (fun c22 => ?_) (fun c22 => ?_)
        · replace hm := ip_e hm c22
          obtain ⟨y23, hy23⟩ : ∃ z : Int32, z = (x2) + Int32.ofInt 1 := ⟨_, rfl⟩
          replace hm := ltb_e hm hy23
          refine zx_iinc C [(2, .int (y23)), (0, .ref (x0)), (1, .int (x1))] dX6_canBePath_51 2 rfl hy23.symm (by decide) rfl ?_
          refine zx_goto C 22 dX6_canBePath_54 (by decide) ?_
          exact zx_lv [1, 2, 0] [(0, .ref (x0)), (1, .int (x1)), (2, .int (y23))] rfl (hrc22 _ _ _ _ hm)
        · replace hm := in_e hm c22
          exact zx_lv [] [] rfl (j_X6_canBePath_49 C htab hin    hm)
set_option maxRecDepth 100000 in
set_option maxHeartbeats 1000000 in
theorem c_X6_canBePath {l : Launch} {D : va_G} {aC : Nat → ClassId} {b0 fu : Nat} {a0 : Nat} {p0 : Int32} {σ τ : tM} {v : Int32} (hm : m_X6_canBePath b0 fu a0 p0 σ = some (v, τ)) : tMt l D aC b0 yX6_canBePath (Cond.code yX6_canBePath cX6_canBePath 3 (some .boolean)) 0 0 [.ref (a0), .int (p0)] σ (.inl (some (.int v))) τ := by
  unfold m_X6_canBePath at hm
  obtain ⟨hg, hm⟩ := grw_e hm
  refine tMt_of (n := 0) rfl (Nat.le_of_ble_eq_true rfl) hg ?_
  intro p e s m below meth c C htab hin
  refine zx_lv [0, 1] [(0, .ref (a0)), (1, .int (p0))] rfl ?_
  refine zx_iload_n C dX6_canBePath_0 1 rfl ?_
  refine zx_if_lt C 18 dX6_canBePath_1 (by decide) (fun c1 => ?_) (fun c1 => ?_)
  · replace hm := ip_e hm c1
    exact zx_lv [] [] rfl (j_X6_canBePath_18 C htab hin    hm)
  · replace hm := in_e hm c1
    refine zx_iload_n C dX6_canBePath_4 1 rfl ?_
    refine zx_bipush (v := 120) C dX6_canBePath_5 (by decide) ?_
    refine zx_icmp_gt C 18 dX6_canBePath_7 (by decide) (fun c2 => ?_) (fun c2 => ?_)
    · replace hm := ip_e hm c2
      exact zx_lv [] [] rfl (j_X6_canBePath_18 C htab hin    hm)
    · replace hm := in_e hm c2
      refine zx_iload_n C dX6_canBePath_10 1 rfl ?_
      refine zx_aload_n C dX6_canBePath_11 0 rfl ?_
      obtain ⟨k3, i4, hm⟩ := ckO_e hm
      refine zx_get (j := 1) C tC_6 k3 i4 ⟨by decide, Or.inl W_2_43⟩ dX6_canBePath_12 (.int (tI (σ) (a0) 1)) rfl ?_
      refine zx_icmp_le C 20 dX6_canBePath_15 (by decide) (fun c5 => ?_) (fun c5 => ?_)
      · replace hm := ip_e hm c5
        refine zx_iconst (v := 0) C dX6_canBePath_20 (by decide) ?_
        refine zx_istore_n C [(2, .int (0)), (0, .ref (a0)), (1, .int (p0))] dX6_canBePath_21 rfl (by decide) rfl ?_
        exact zx_lv [1, 2, 0] [(0, .ref (a0)), (1, .int (p0)), (2, .int (0))] rfl (l_X6_canBePath_22 C htab hin  _ _ _ _ _ hm)
      · replace hm := in_e hm c5
        exact zx_lv [] [] rfl (j_X6_canBePath_18 C htab hin    hm)
abbrev cX7_init : ByteArray := prog_9_method_1_code
def yX7_init : MethodName := ⟨"SyncTree$Transaction", "<init>", "(IIIIII)V"⟩
theorem Y_X7_init : tY yX7_init cX7_init 7 none 6 := ⟨W_4_17, W_1_19, ⟨by decide +kernel, by decide +kernel⟩, by decide +kernel⟩
theorem dX7_init_0 : decode cX7_init 0 = .ok (.aload_n 0, 1) := by decide +kernel
theorem dX7_init_1 : decode cX7_init 1 = .ok (.invokespecial 1, 3) := by decide +kernel
theorem dX7_init_4 : decode cX7_init 4 = .ok (.aload_n 0, 1) := by decide +kernel
theorem dX7_init_5 : decode cX7_init 5 = .ok (.iload_n 1, 1) := by decide +kernel
theorem dX7_init_6 : decode cX7_init 6 = .ok (.putfield 7, 3) := by decide +kernel
theorem dX7_init_9 : decode cX7_init 9 = .ok (.aload_n 0, 1) := by decide +kernel
theorem dX7_init_10 : decode cX7_init 10 = .ok (.iload_n 2, 1) := by decide +kernel
theorem dX7_init_11 : decode cX7_init 11 = .ok (.putfield 13, 3) := by decide +kernel
theorem dX7_init_14 : decode cX7_init 14 = .ok (.aload_n 0, 1) := by decide +kernel
theorem dX7_init_15 : decode cX7_init 15 = .ok (.iload_n 3, 1) := by decide +kernel
theorem dX7_init_16 : decode cX7_init 16 = .ok (.putfield 16, 3) := by decide +kernel
theorem dX7_init_19 : decode cX7_init 19 = .ok (.aload_n 0, 1) := by decide +kernel
theorem dX7_init_20 : decode cX7_init 20 = .ok (.iload 4, 2) := by decide +kernel
theorem dX7_init_22 : decode cX7_init 22 = .ok (.putfield 19, 3) := by decide +kernel
theorem dX7_init_25 : decode cX7_init 25 = .ok (.aload_n 0, 1) := by decide +kernel
theorem dX7_init_26 : decode cX7_init 26 = .ok (.iconst 0, 1) := by decide +kernel
theorem dX7_init_27 : decode cX7_init 27 = .ok (.iload 5, 2) := by decide +kernel
theorem dX7_init_29 : decode cX7_init 29 = .ok (.invokestatic 22, 3) := by decide +kernel
theorem dX7_init_32 : decode cX7_init 32 = .ok (.newarray .int, 2) := by decide +kernel
theorem dX7_init_34 : decode cX7_init 34 = .ok (.putfield 28, 3) := by decide +kernel
theorem dX7_init_37 : decode cX7_init 37 = .ok (.aload_n 0, 1) := by decide +kernel
theorem dX7_init_38 : decode cX7_init 38 = .ok (.iconst 0, 1) := by decide +kernel
theorem dX7_init_39 : decode cX7_init 39 = .ok (.iload 5, 2) := by decide +kernel
theorem dX7_init_41 : decode cX7_init 41 = .ok (.invokestatic 22, 3) := by decide +kernel
theorem dX7_init_44 : decode cX7_init 44 = .ok (.anewarray 32, 3) := by decide +kernel
theorem dX7_init_47 : decode cX7_init 47 = .ok (.putfield 34, 3) := by decide +kernel
theorem dX7_init_50 : decode cX7_init 50 = .ok (.aload_n 0, 1) := by decide +kernel
theorem dX7_init_51 : decode cX7_init 51 = .ok (.iconst 0, 1) := by decide +kernel
theorem dX7_init_52 : decode cX7_init 52 = .ok (.iload 6, 2) := by decide +kernel
theorem dX7_init_54 : decode cX7_init 54 = .ok (.invokestatic 22, 3) := by decide +kernel
theorem dX7_init_57 : decode cX7_init 57 = .ok (.newarray .int, 2) := by decide +kernel
theorem dX7_init_59 : decode cX7_init 59 = .ok (.putfield 38, 3) := by decide +kernel
theorem dX7_init_62 : decode cX7_init 62 = .ok (.return_, 1) := by decide +kernel
set_option maxRecDepth 100000 in
set_option maxHeartbeats 1000000 in
theorem c_X7_init {l : Launch} {D : va_G} {aC : Nat → ClassId} {b0 fu : Nat} {a0 : Nat} {p0 : Int32} {p1 : Int32} {p2 : Int32} {p3 : Int32} {p4 : Int32} {p5 : Int32} {σ τ : tM} {v : Unit} (hm : m_X7_init b0 fu a0 p0 p1 p2 p3 p4 p5 σ = some (v, τ)) : tMt l D aC b0 yX7_init (Cond.code yX7_init cX7_init 7 none) 1 21 [.ref (a0), .int (p0), .int (p1), .int (p2), .int (p3), .int (p4), .int (p5)] σ (.inl none) τ := by
  unfold m_X7_init at hm
  obtain ⟨hg, hm⟩ := grw_e hm
  refine tMt_of (n := 0) rfl (Nat.le_of_ble_eq_true rfl) hg ?_
  intro p e s m below meth c C htab hin
  refine zx_lv [0, 1, 2, 3, 4, 5, 6] [(0, .ref (a0)), (1, .int (p0)), (2, .int (p1)), (3, .int (p2)), (4, .int (p3)), (5, .int (p4)), (6, .int (p5))] rfl ?_
  refine zx_aload_n C dX7_init_0 0 rfl ?_
  refine zx_obj C W_4_18 W_1_26 W_1_27 (by decide) (by decide) (Nat.le_of_ble_eq_true rfl) dX7_init_1 ?_
  refine zx_aload_n C dX7_init_4 0 rfl ?_
  refine zx_iload_n C dX7_init_5 1 rfl ?_
  obtain ⟨k1, i2, hm⟩ := ckO_e hm
  refine zx_putF (j := 0) (ρ := sI (σ) (a0) 0 (p0)) C hin tC_7 k1 i2 (by decide) W_4_21 rfl rfl rfl rfl (sI_ok (fun _ => rfl)) dX7_init_6 ?_
  refine zx_aload_n C dX7_init_9 0 rfl ?_
  refine zx_iload_n C dX7_init_10 2 rfl ?_
  refine zx_putF (j := 1) (ρ := sI (sI (σ) (a0) 0 (p0)) (a0) 1 (p1)) C hin tC_7 k1 i2 (by decide) W_4_23 rfl rfl rfl rfl (sI_ok (fun _ => rfl)) dX7_init_11 ?_
  refine zx_aload_n C dX7_init_14 0 rfl ?_
  refine zx_iload_n C dX7_init_15 3 rfl ?_
  refine zx_putF (j := 2) (ρ := sI (sI (sI (σ) (a0) 0 (p0)) (a0) 1 (p1)) (a0) 2 (p2)) C hin tC_7 k1 i2 (by decide) W_4_25 rfl rfl rfl rfl (sI_ok (fun _ => rfl)) dX7_init_16 ?_
  refine zx_aload_n C dX7_init_19 0 rfl ?_
  refine zx_iload C dX7_init_20 4 rfl ?_
  refine zx_putF (j := 3) (ρ := sI (sI (sI (sI (σ) (a0) 0 (p0)) (a0) 1 (p1)) (a0) 2 (p2)) (a0) 3 (p3)) C hin tC_7 k1 i2 (by decide) W_4_27 rfl rfl rfl rfl (sI_ok (fun _ => rfl)) dX7_init_22 ?_
  refine zx_aload_n C dX7_init_25 0 rfl ?_
  refine zx_iconst (v := 0) C dX7_init_26 (by decide) ?_
  refine zx_iload C dX7_init_27 5 rfl ?_
  refine zx_max C W_4_19 W_2_109 W_1_10 W_2_110 (by decide) (by decide) (Nat.le_of_ble_eq_true rfl) dX7_init_29 ?_
  obtain ⟨h22, h23, hm⟩ := ckN_e hm
  refine zx_newI C W_1_85 h22 h23 dX7_init_32 ?_
  refine zx_mem (fun ρ3 hρ3 => ?_)
  replace hm := ltb_e hm hρ3
  have k4 : tk ρ3 (b0 + tn σ) = .inr (0, ((if ((0 : Int32)) < (p4) then (p4) else (0) : Int32)).toNatClampNeg) := by rw [hρ3]; exact sN_k _ _ _ _
  have i5 : tIn b0 ρ3 (b0 + tn σ) := by rw [hρ3]; exact sN_i _ _ _ _
  obtain ⟨k6, i7, hm⟩ := ckO_e hm
  refine zx_putF (j := 4) (ρ := sA (ρ3) (a0) 4 (some (b0 + tn σ))) C hin tC_7 k6 i7 (by decide) W_4_29 rfl rfl rfl rfl (sA_ok (fun _ => rfl)) dX7_init_34 ?_
  refine zx_aload_n C dX7_init_37 0 rfl ?_
  refine zx_iconst (v := 0) C dX7_init_38 (by decide) ?_
  refine zx_iload C dX7_init_39 5 rfl ?_
  refine zx_max C W_4_19 W_2_109 W_1_10 W_2_110 (by decide) (by decide) (Nat.le_of_ble_eq_true rfl) dX7_init_41 ?_
  obtain ⟨h20, h21, hm⟩ := ckN_e hm
  refine zx_newR C W_4_20 W_1_35 h20 h21 dX7_init_44 ?_
  refine zx_mem (fun ρ8 hρ8 => ?_)
  replace hm := ltb_e hm hρ8
  have k9 : tk ρ8 (b0 + tn ρ3) = .inr (4, ((if ((0 : Int32)) < (p4) then (p4) else (0) : Int32)).toNatClampNeg) := by rw [hρ8]; exact sN_k _ _ _ _
  have i10 : tIn b0 ρ8 (b0 + tn ρ3) := by rw [hρ8]; exact sN_i _ _ _ _
  obtain ⟨k11, i12, hm⟩ := ckO_e hm
  refine zx_putF (j := 5) (ρ := sA (ρ8) (a0) 5 (some (b0 + tn ρ3))) C hin tC_7 k11 i12 (by decide) W_4_31 rfl rfl rfl rfl (sA_ok (fun _ => rfl)) dX7_init_47 ?_
  refine zx_aload_n C dX7_init_50 0 rfl ?_
  refine zx_iconst (v := 0) C dX7_init_51 (by decide) ?_
  refine zx_iload C dX7_init_52 6 rfl ?_
  refine zx_max C W_4_19 W_2_109 W_1_10 W_2_110 (by decide) (by decide) (Nat.le_of_ble_eq_true rfl) dX7_init_54 ?_
  obtain ⟨h18, h19, hm⟩ := ckN_e hm
  refine zx_newI C W_1_85 h18 h19 dX7_init_57 ?_
  refine zx_mem (fun ρ13 hρ13 => ?_)
  replace hm := ltb_e hm hρ13
  have k14 : tk ρ13 (b0 + tn ρ8) = .inr (0, ((if ((0 : Int32)) < (p5) then (p5) else (0) : Int32)).toNatClampNeg) := by rw [hρ13]; exact sN_k _ _ _ _
  have i15 : tIn b0 ρ13 (b0 + tn ρ8) := by rw [hρ13]; exact sN_i _ _ _ _
  obtain ⟨k16, i17, hm⟩ := ckO_e hm
  refine zx_putF (j := 6) (ρ := sA (ρ13) (a0) 6 (some (b0 + tn ρ8))) C hin tC_7 k16 i17 (by decide) W_4_33 rfl rfl rfl rfl (sA_ok (fun _ => rfl)) dX7_init_59 ?_
  obtain ⟨rfl, rfl⟩ := ret_e hm
  exact zx_vret C rfl rfl rfl dX7_init_62
abbrev cX7_revokes : ByteArray := prog_9_method_2_code
def yX7_revokes : MethodName := ⟨"SyncTree$Transaction", "revokes", "(I)Z"⟩
theorem Y_X7_revokes : tY yX7_revokes cX7_revokes 3 (some .boolean) 1 := ⟨W_4_4, W_1_19, ⟨by decide +kernel, by decide +kernel⟩, by decide +kernel⟩
theorem dX7_revokes_0 : decode cX7_revokes 0 = .ok (.iconst 0, 1) := by decide +kernel
theorem dX7_revokes_1 : decode cX7_revokes 1 = .ok (.istore_n 2, 1) := by decide +kernel
theorem dX7_revokes_2 : decode cX7_revokes 2 = .ok (.iload_n 2, 1) := by decide +kernel
theorem dX7_revokes_3 : decode cX7_revokes 3 = .ok (.aload_n 0, 1) := by decide +kernel
theorem dX7_revokes_4 : decode cX7_revokes 4 = .ok (.getfield 38, 3) := by decide +kernel
theorem dX7_revokes_7 : decode cX7_revokes 7 = .ok (.arraylength, 1) := by decide +kernel
theorem dX7_revokes_8 : decode cX7_revokes 8 = .ok (.if_icmp .ge 21, 3) := by decide +kernel
theorem dX7_revokes_11 : decode cX7_revokes 11 = .ok (.aload_n 0, 1) := by decide +kernel
theorem dX7_revokes_12 : decode cX7_revokes 12 = .ok (.getfield 38, 3) := by decide +kernel
theorem dX7_revokes_15 : decode cX7_revokes 15 = .ok (.iload_n 2, 1) := by decide +kernel
theorem dX7_revokes_16 : decode cX7_revokes 16 = .ok (.iaload, 1) := by decide +kernel
theorem dX7_revokes_17 : decode cX7_revokes 17 = .ok (.iload_n 1, 1) := by decide +kernel
theorem dX7_revokes_18 : decode cX7_revokes 18 = .ok (.if_icmp .ne 5, 3) := by decide +kernel
theorem dX7_revokes_21 : decode cX7_revokes 21 = .ok (.iconst 1, 1) := by decide +kernel
theorem dX7_revokes_22 : decode cX7_revokes 22 = .ok (.ireturn, 1) := by decide +kernel
theorem dX7_revokes_23 : decode cX7_revokes 23 = .ok (.iinc 2 1, 3) := by decide +kernel
theorem dX7_revokes_26 : decode cX7_revokes 26 = .ok (.goto (-24), 3) := by decide +kernel
theorem dX7_revokes_29 : decode cX7_revokes 29 = .ok (.iconst 0, 1) := by decide +kernel
theorem dX7_revokes_30 : decode cX7_revokes 30 = .ok (.ireturn, 1) := by decide +kernel
set_option maxRecDepth 100000 in
set_option maxHeartbeats 1000000 in
theorem l_X7_revokes_2 {p : Program} {l : Launch} {e : Env} {s : State} {m : MethodId} {args : Array Value} {below : List Frame} {meth : Method} {c : Code} {D : va_G} {aC : Nat → ClassId} {b0 fu : Nat} {σ0 τ : tM} {v : Int32}  (C : tCx p l s m args meth c yX7_revokes.cls cX7_revokes 3 (some .boolean) D aC b0 σ0) (htab : ∀ x ∈ c.exceptionTable.toList, False) (hin : meth.name = yX7_revokes.name)  : ∀ (n : Nat) (x0 : Nat) (x1 : Int32) (x2 : Int32) (σ : tM), L_X7_revokes_2 b0 fu  n x0 x1 x2 σ = some (v, τ) → tX p l e s m args below meth c 3 0 0 D aC b0 σ0 (.inl (some (.int v))) τ 2 [(0, .ref (x0)), (1, .int (x1)), (2, .int (x2))] [] σ := by
  intro n
  induction n with
  | zero => intro x0 x1 x2 σ hm; unfold L_X7_revokes_2 at hm; cases hm
  | succ n ih =>
    intro x0 x1 x2 σ hm
    unfold L_X7_revokes_2 at hm
    obtain ⟨rc2, hrc⟩ : ∃ z, z = L_X7_revokes_2 b0 fu  n := ⟨_, rfl⟩
    replace hm := ltb_e hm hrc
    rw [← hrc] at ih
    have hrc2 := ih
    clear ih hrc
    refine zx_iload_n C dX7_revokes_2 2 rfl ?_
    refine zx_aload_n C dX7_revokes_3 0 rfl ?_
    obtain ⟨k1, i2, hm⟩ := ckO_e hm
    obtain ⟨a3, h4, hm⟩ := osm_e hm
    refine zx_get (j := 6) C tC_7 k1 i2 ⟨by decide, Or.inl W_4_33⟩ dX7_revokes_4 (.ref a3) (rf_s h4) ?_
    obtain ⟨n7, k5, i6, hm⟩ := ckR_e hm
    refine zx_alen C k5 (by decide) i6 dX7_revokes_7 ?_
    refine zx_icmp_ge C 29 dX7_revokes_8 (by decide) (fun c8 => ?_) (fun c8 => ?_)
    · replace hm := ip_e hm c8
      refine zx_iconst (v := 0) C dX7_revokes_29 (by decide) ?_
      obtain ⟨rfl, rfl⟩ := ret_e hm
      exact zx_zret C rfl (by decide) rfl rfl dX7_revokes_30
    · replace hm := in_e hm c8
      refine zx_aload_n C dX7_revokes_11 0 rfl ?_
      obtain ⟨a9, h10, hm⟩ := osm_e hm
      refine zx_get (j := 6) C tC_7 k1 i2 ⟨by decide, Or.inl W_4_33⟩ dX7_revokes_12 (.ref a9) (rf_s h10) ?_
      refine zx_iload_n C dX7_revokes_15 2 rfl ?_
      obtain ⟨n13, k11, i12, hm⟩ := ckR_e hm
      obtain ⟨h14, hm⟩ := ckI_e hm
      refine zx_iald C k11 i12 h14 dX7_revokes_16 ?_
      refine zx_iload_n C dX7_revokes_17 1 rfl ?_
      refine zx_icmp_ne C 23 dX7_revokes_18 (by decide) (fun c15 => ?_) (fun c15 => ?_)
      · replace hm := in_e hm c15
        obtain ⟨y16, hy16⟩ : ∃ z : Int32, z = (x2) + Int32.ofInt 1 := ⟨_, rfl⟩
        replace hm := ltb_e hm hy16
        refine zx_iinc C [(2, .int (y16)), (0, .ref (x0)), (1, .int (x1))] dX7_revokes_23 2 rfl hy16.symm (by decide) rfl ?_
        refine zx_goto C 2 dX7_revokes_26 (by decide) ?_
        exact zx_lv [1, 2, 0] [(0, .ref (x0)), (1, .int (x1)), (2, .int (y16))] rfl (hrc2 _ _ _ _ hm)
      · replace hm := ip_e hm c15
        refine zx_iconst (v := 1) C dX7_revokes_21 (by decide) ?_
        obtain ⟨rfl, rfl⟩ := ret_e hm
        exact zx_zret C rfl (by decide) rfl rfl dX7_revokes_22
set_option maxRecDepth 100000 in
set_option maxHeartbeats 1000000 in
theorem c_X7_revokes {l : Launch} {D : va_G} {aC : Nat → ClassId} {b0 fu : Nat} {a0 : Nat} {p0 : Int32} {σ τ : tM} {v : Int32} (hm : m_X7_revokes b0 fu a0 p0 σ = some (v, τ)) : tMt l D aC b0 yX7_revokes (Cond.code yX7_revokes cX7_revokes 3 (some .boolean)) 0 0 [.ref (a0), .int (p0)] σ (.inl (some (.int v))) τ := by
  unfold m_X7_revokes at hm
  obtain ⟨hg, hm⟩ := grw_e hm
  refine tMt_of (n := 0) rfl (Nat.le_of_ble_eq_true rfl) hg ?_
  intro p e s m below meth c C htab hin
  refine zx_lv [0, 1] [(0, .ref (a0)), (1, .int (p0))] rfl ?_
  refine zx_iconst (v := 0) C dX7_revokes_0 (by decide) ?_
  refine zx_istore_n C [(2, .int (0)), (0, .ref (a0)), (1, .int (p0))] dX7_revokes_1 rfl (by decide) rfl ?_
  exact zx_lv [1, 2, 0] [(0, .ref (a0)), (1, .int (p0)), (2, .int (0))] rfl (l_X7_revokes_2 C htab hin  _ _ _ _ _ hm)
abbrev cX8_init : ByteArray := prog_10_method_1_code
def yX8_init : MethodName := ⟨"SyncTree$Tree", "<init>", "(LSyncTree$Space;)V"⟩
theorem Y_X8_init : tY yX8_init cX8_init 2 none 1 := ⟨W_1_161, W_1_4, ⟨by decide +kernel, by decide +kernel⟩, by decide +kernel⟩
theorem dX8_init_0 : decode cX8_init 0 = .ok (.aload_n 0, 1) := by decide +kernel
theorem dX8_init_1 : decode cX8_init 1 = .ok (.invokespecial 5, 3) := by decide +kernel
theorem dX8_init_4 : decode cX8_init 4 = .ok (.aload_n 0, 1) := by decide +kernel
theorem dX8_init_5 : decode cX8_init 5 = .ok (.bipush 64, 2) := by decide +kernel
theorem dX8_init_7 : decode cX8_init 7 = .ok (.newarray .byte, 2) := by decide +kernel
theorem dX8_init_9 : decode cX8_init 9 = .ok (.putfield 11, 3) := by decide +kernel
theorem dX8_init_12 : decode cX8_init 12 = .ok (.aload_n 0, 1) := by decide +kernel
theorem dX8_init_13 : decode cX8_init 13 = .ok (.aload_n 1, 1) := by decide +kernel
theorem dX8_init_14 : decode cX8_init 14 = .ok (.putfield 15, 3) := by decide +kernel
theorem dX8_init_17 : decode cX8_init 17 = .ok (.aload_n 0, 1) := by decide +kernel
theorem dX8_init_18 : decode cX8_init 18 = .ok (.aload_n 1, 1) := by decide +kernel
theorem dX8_init_19 : decode cX8_init 19 = .ok (.getfield 19, 3) := by decide +kernel
theorem dX8_init_22 : decode cX8_init 22 = .ok (.putfield 25, 3) := by decide +kernel
theorem dX8_init_25 : decode cX8_init 25 = .ok (.return_, 1) := by decide +kernel
set_option maxRecDepth 100000 in
set_option maxHeartbeats 1000000 in
theorem c_X8_init {l : Launch} {D : va_G} {aC : Nat → ClassId} {b0 fu : Nat} {a0 : Nat} {p0 : Nat} {σ τ : tM} {v : Unit} (hm : m_X8_init b0 fu a0 p0 σ = some (v, τ)) : tMt l D aC b0 yX8_init (Cond.code yX8_init cX8_init 2 none) 1 20 [.ref (a0), .ref (p0)] σ (.inl none) τ := by
  unfold m_X8_init at hm
  obtain ⟨hg, hm⟩ := grw_e hm
  refine tMt_of (n := 0) rfl (Nat.le_of_ble_eq_true rfl) hg ?_
  intro p e s m below meth c C htab hin
  refine zx_lv [0, 1] [(0, .ref (a0)), (1, .ref (p0))] rfl ?_
  refine zx_aload_n C dX8_init_0 0 rfl ?_
  refine zx_obj C W_1_162 W_1_26 W_1_27 (by decide) (by decide) (Nat.le_of_ble_eq_true rfl) dX8_init_1 ?_
  refine zx_aload_n C dX8_init_4 0 rfl ?_
  refine zx_bipush (v := 64) C dX8_init_5 (by decide) ?_
  refine zx_newB C W_1_156 (by decide) (by decide) dX8_init_7 ?_
  refine zx_mem (fun ρ1 hρ1 => ?_)
  replace hm := ltb_e hm hρ1
  have k2 : tk ρ1 (b0 + tn σ) = .inr (1, ((64 : Int32)).toNatClampNeg) := by rw [hρ1]; exact sN_k _ _ _ _
  have i3 : tIn b0 ρ1 (b0 + tn σ) := by rw [hρ1]; exact sN_i _ _ _ _
  obtain ⟨k4, i5, hm⟩ := ckO_e hm
  refine zx_putF (j := 2) (ρ := sA (ρ1) (a0) 2 (some (b0 + tn σ))) C hin tC_8 k4 i5 (by decide) W_1_165 rfl rfl rfl rfl (sA_ok (fun _ => rfl)) dX8_init_9 ?_
  refine zx_aload_n C dX8_init_12 0 rfl ?_
  refine zx_aload_n C dX8_init_13 1 rfl ?_
  refine zx_putF (j := 0) (ρ := sA (sA (ρ1) (a0) 2 (some (b0 + tn σ))) (a0) 0 (some (p0))) C hin tC_8 k4 i5 (by decide) W_1_163 rfl rfl rfl rfl (sA_ok (fun _ => rfl)) dX8_init_14 ?_
  refine zx_aload_n C dX8_init_17 0 rfl ?_
  refine zx_aload_n C dX8_init_18 1 rfl ?_
  obtain ⟨k6, i7, hm⟩ := ckO_e hm
  obtain ⟨a8, h9, hm⟩ := osm_e hm
  refine zx_get (j := 0) C tC_5 k6 i7 ⟨by decide, Or.inr ⟨_, W_1_95⟩⟩ dX8_init_19 (.ref a8) (rf_s h9) ?_
  refine zx_putF (j := 1) (ρ := sA (sA (sA (ρ1) (a0) 2 (some (b0 + tn σ))) (a0) 0 (some (p0))) (a0) 1 (some (a8))) C hin tC_8 k4 i5 (by decide) W_1_164 rfl rfl rfl rfl (sA_ok (fun _ => rfl)) dX8_init_22 ?_
  obtain ⟨rfl, rfl⟩ := ret_e hm
  exact zx_vret C rfl rfl rfl dX8_init_25
abbrev cX8_cellOf : ByteArray := prog_10_method_2_code
def yX8_cellOf : MethodName := ⟨"SyncTree$Tree", "cellOf", "(J)I"⟩
theorem Y_X8_cellOf : tY yX8_cellOf cX8_cellOf 2 (some .int) 1 := ⟨W_4_119, W_1_4, ⟨by decide +kernel, by decide +kernel⟩, by decide +kernel⟩
theorem dX8_cellOf_0 : decode cX8_cellOf 0 = .ok (.lload_n 0, 1) := by decide +kernel
theorem dX8_cellOf_1 : decode cX8_cellOf 1 = .ok (.l2i, 1) := by decide +kernel
theorem dX8_cellOf_2 : decode cX8_cellOf 2 = .ok (.sipush 2047, 3) := by decide +kernel
theorem dX8_cellOf_5 : decode cX8_cellOf 5 = .ok (.iand, 1) := by decide +kernel
theorem dX8_cellOf_6 : decode cX8_cellOf 6 = .ok (.ireturn, 1) := by decide +kernel
set_option maxRecDepth 100000 in
set_option maxHeartbeats 1000000 in
theorem c_X8_cellOf {l : Launch} {D : va_G} {aC : Nat → ClassId} {b0 fu : Nat} {p0 : Int64} {σ τ : tM} {v : Int32} (hm : m_X8_cellOf b0 fu p0 σ = some (v, τ)) : tMt l D aC b0 yX8_cellOf (Cond.code yX8_cellOf cX8_cellOf 2 (some .int)) 0 0 [.long (p0)] σ (.inl (some (.int v))) τ := by
  unfold m_X8_cellOf at hm
  obtain ⟨hg, hm⟩ := grw_e hm
  refine tMt_of (n := 0) rfl (Nat.le_of_ble_eq_true rfl) hg ?_
  intro p e s m below meth c C htab hin
  refine zx_lv [0] [(0, .long (p0))] rfl ?_
  refine zx_lload_n C dX8_cellOf_0 0 rfl ?_
  refine zx_l2i C dX8_cellOf_1 ?_
  refine zx_sipush (v := 2047) C dX8_cellOf_2 (by decide) ?_
  refine zx_iand C dX8_cellOf_5 ?_
  obtain ⟨rfl, rfl⟩ := ret_e hm
  exact zx_iret C rfl rfl rfl dX8_cellOf_6
abbrev cX8_birthOf : ByteArray := prog_10_method_3_code
def yX8_birthOf : MethodName := ⟨"SyncTree$Tree", "birthOf", "(J)I"⟩
theorem Y_X8_birthOf : tY yX8_birthOf cX8_birthOf 2 (some .int) 1 := ⟨W_6_173, W_1_4, ⟨by decide +kernel, by decide +kernel⟩, by decide +kernel⟩
theorem dX8_birthOf_0 : decode cX8_birthOf 0 = .ok (.lload_n 0, 1) := by decide +kernel
theorem dX8_birthOf_1 : decode cX8_birthOf 1 = .ok (.bipush 16, 2) := by decide +kernel
theorem dX8_birthOf_3 : decode cX8_birthOf 3 = .ok (.lushr, 1) := by decide +kernel
theorem dX8_birthOf_4 : decode cX8_birthOf 4 = .ok (.l2i, 1) := by decide +kernel
theorem dX8_birthOf_5 : decode cX8_birthOf 5 = .ok (.ireturn, 1) := by decide +kernel
set_option maxRecDepth 100000 in
set_option maxHeartbeats 1000000 in
theorem c_X8_birthOf {l : Launch} {D : va_G} {aC : Nat → ClassId} {b0 fu : Nat} {p0 : Int64} {σ τ : tM} {v : Int32} (hm : m_X8_birthOf b0 fu p0 σ = some (v, τ)) : tMt l D aC b0 yX8_birthOf (Cond.code yX8_birthOf cX8_birthOf 2 (some .int)) 0 0 [.long (p0)] σ (.inl (some (.int v))) τ := by
  unfold m_X8_birthOf at hm
  obtain ⟨hg, hm⟩ := grw_e hm
  refine tMt_of (n := 0) rfl (Nat.le_of_ble_eq_true rfl) hg ?_
  intro p e s m below meth c C htab hin
  refine zx_lv [0] [(0, .long (p0))] rfl ?_
  refine zx_lload_n C dX8_birthOf_0 0 rfl ?_
  refine zx_bipush (v := 16) C dX8_birthOf_1 (by decide) ?_
  refine zx_lushr C dX8_birthOf_3 ?_
  refine zx_l2i C dX8_birthOf_4 ?_
  obtain ⟨rfl, rfl⟩ := ret_e hm
  exact zx_iret C rfl rfl rfl dX8_birthOf_5
abbrev cX8_nodeWord : ByteArray := prog_10_method_4_code
def yX8_nodeWord : MethodName := ⟨"SyncTree$Tree", "nodeWord", "(II)J"⟩
theorem Y_X8_nodeWord : tY yX8_nodeWord cX8_nodeWord 3 (some .long) 2 := ⟨W_3_86, W_1_4, ⟨by decide +kernel, by decide +kernel⟩, by decide +kernel⟩
theorem dX8_nodeWord_0 : decode cX8_nodeWord 0 = .ok (.iload_n 1, 1) := by decide +kernel
theorem dX8_nodeWord_1 : decode cX8_nodeWord 1 = .ok (.ifCond .lt 19, 3) := by decide +kernel
theorem dX8_nodeWord_4 : decode cX8_nodeWord 4 = .ok (.iload_n 1, 1) := by decide +kernel
theorem dX8_nodeWord_5 : decode cX8_nodeWord 5 = .ok (.bipush 64, 2) := by decide +kernel
theorem dX8_nodeWord_7 : decode cX8_nodeWord 7 = .ok (.if_icmp .ge 13, 3) := by decide +kernel
theorem dX8_nodeWord_10 : decode cX8_nodeWord 10 = .ok (.iload_n 2, 1) := by decide +kernel
theorem dX8_nodeWord_11 : decode cX8_nodeWord 11 = .ok (.ifCond .lt 9, 3) := by decide +kernel
theorem dX8_nodeWord_14 : decode cX8_nodeWord 14 = .ok (.iload_n 2, 1) := by decide +kernel
theorem dX8_nodeWord_15 : decode cX8_nodeWord 15 = .ok (.bipush 16, 2) := by decide +kernel
theorem dX8_nodeWord_17 : decode cX8_nodeWord 17 = .ok (.if_icmp .lt 5, 3) := by decide +kernel
theorem dX8_nodeWord_20 : decode cX8_nodeWord 20 = .ok (.lconst 0, 1) := by decide +kernel
theorem dX8_nodeWord_21 : decode cX8_nodeWord 21 = .ok (.lreturn, 1) := by decide +kernel
theorem dX8_nodeWord_22 : decode cX8_nodeWord 22 = .ok (.aload_n 0, 1) := by decide +kernel
theorem dX8_nodeWord_23 : decode cX8_nodeWord 23 = .ok (.getfield 25, 3) := by decide +kernel
theorem dX8_nodeWord_26 : decode cX8_nodeWord 26 = .ok (.bipush 64, 2) := by decide +kernel
theorem dX8_nodeWord_28 : decode cX8_nodeWord 28 = .ok (.iload_n 1, 1) := by decide +kernel
theorem dX8_nodeWord_29 : decode cX8_nodeWord 29 = .ok (.bipush 16, 2) := by decide +kernel
theorem dX8_nodeWord_31 : decode cX8_nodeWord 31 = .ok (.imul, 1) := by decide +kernel
theorem dX8_nodeWord_32 : decode cX8_nodeWord 32 = .ok (.iadd, 1) := by decide +kernel
theorem dX8_nodeWord_33 : decode cX8_nodeWord 33 = .ok (.iload_n 2, 1) := by decide +kernel
theorem dX8_nodeWord_34 : decode cX8_nodeWord 34 = .ok (.iadd, 1) := by decide +kernel
theorem dX8_nodeWord_35 : decode cX8_nodeWord 35 = .ok (.laload, 1) := by decide +kernel
theorem dX8_nodeWord_36 : decode cX8_nodeWord 36 = .ok (.lreturn, 1) := by decide +kernel
set_option maxRecDepth 100000 in
set_option maxHeartbeats 1000000 in
theorem j_X8_nodeWord_20 {p : Program} {l : Launch} {e : Env} {s : State} {m : MethodId} {args : Array Value} {below : List Frame} {meth : Method} {c : Code} {D : va_G} {aC : Nat → ClassId} {b0 fu : Nat} {σ0 τ : tM} {v : Int64}  (C : tCx p l s m args meth c yX8_nodeWord.cls cX8_nodeWord 3 (some .long) D aC b0 σ0) (htab : ∀ x ∈ c.exceptionTable.toList, False) (hin : meth.name = yX8_nodeWord.name)   {σ : tM} (hm : J_X8_nodeWord_20 b0 fu   σ = some (v, τ)) : tX p l e s m args below meth c 3 0 0 D aC b0 σ0 (.inl (some (.long v))) τ 20 [] [] σ := by
  unfold J_X8_nodeWord_20 at hm
  refine zx_lconst (v := 0) C dX8_nodeWord_20 (by decide) ?_
  obtain ⟨rfl, rfl⟩ := ret_e hm
  exact zx_lret C rfl rfl rfl dX8_nodeWord_21
set_option maxRecDepth 100000 in
set_option maxHeartbeats 1000000 in
theorem c_X8_nodeWord {l : Launch} {D : va_G} {aC : Nat → ClassId} {b0 fu : Nat} {a0 : Nat} {p0 : Int32} {p1 : Int32} {σ τ : tM} {v : Int64} (hm : m_X8_nodeWord b0 fu a0 p0 p1 σ = some (v, τ)) : tMt l D aC b0 yX8_nodeWord (Cond.code yX8_nodeWord cX8_nodeWord 3 (some .long)) 0 0 [.ref (a0), .int (p0), .int (p1)] σ (.inl (some (.long v))) τ := by
  unfold m_X8_nodeWord at hm
  obtain ⟨hg, hm⟩ := grw_e hm
  refine tMt_of (n := 0) rfl (Nat.le_of_ble_eq_true rfl) hg ?_
  intro p e s m below meth c C htab hin
  refine zx_lv [0, 1, 2] [(0, .ref (a0)), (1, .int (p0)), (2, .int (p1))] rfl ?_
  refine zx_iload_n C dX8_nodeWord_0 1 rfl ?_
  refine zx_if_lt C 20 dX8_nodeWord_1 (by decide) (fun c1 => ?_) (fun c1 => ?_)
  · replace hm := ip_e hm c1
    exact zx_lv [] [] rfl (j_X8_nodeWord_20 C htab hin    hm)
  · replace hm := in_e hm c1
    refine zx_iload_n C dX8_nodeWord_4 1 rfl ?_
    refine zx_bipush (v := 64) C dX8_nodeWord_5 (by decide) ?_
    refine zx_icmp_ge C 20 dX8_nodeWord_7 (by decide) (fun c2 => ?_) (fun c2 => ?_)
    · replace hm := ip_e hm c2
      exact zx_lv [] [] rfl (j_X8_nodeWord_20 C htab hin    hm)
    · replace hm := in_e hm c2
      refine zx_iload_n C dX8_nodeWord_10 2 rfl ?_
      refine zx_if_lt C 20 dX8_nodeWord_11 (by decide) (fun c3 => ?_) (fun c3 => ?_)
      · replace hm := ip_e hm c3
        exact zx_lv [] [] rfl (j_X8_nodeWord_20 C htab hin    hm)
      · replace hm := in_e hm c3
        refine zx_iload_n C dX8_nodeWord_14 2 rfl ?_
        refine zx_bipush (v := 16) C dX8_nodeWord_15 (by decide) ?_
        refine zx_icmp_lt C 22 dX8_nodeWord_17 (by decide) (fun c4 => ?_) (fun c4 => ?_)
        · replace hm := ip_e hm c4
          refine zx_aload_n C dX8_nodeWord_22 0 rfl ?_
          obtain ⟨k5, i6, hm⟩ := ckO_e hm
          obtain ⟨a7, h8, hm⟩ := osm_e hm
          refine zx_get (j := 1) C tC_8 k5 i6 ⟨by decide, Or.inl W_1_164⟩ dX8_nodeWord_23 (.ref a7) (rf_s h8) ?_
          refine zx_bipush (v := 64) C dX8_nodeWord_26 (by decide) ?_
          refine zx_iload_n C dX8_nodeWord_28 1 rfl ?_
          refine zx_bipush (v := 16) C dX8_nodeWord_29 (by decide) ?_
          refine zx_imul C dX8_nodeWord_31 ?_
          refine zx_iadd C dX8_nodeWord_32 ?_
          refine zx_iload_n C dX8_nodeWord_33 2 rfl ?_
          refine zx_iadd C dX8_nodeWord_34 ?_
          obtain ⟨n11, k9, i10, hm⟩ := ckR_e hm
          obtain ⟨h12, hm⟩ := ckI_e hm
          refine zx_lald C k9 i10 h12 dX8_nodeWord_35 ?_
          obtain ⟨rfl, rfl⟩ := ret_e hm
          exact zx_lret C rfl rfl rfl dX8_nodeWord_36
        · replace hm := in_e hm c4
          exact zx_lv [] [] rfl (j_X8_nodeWord_20 C htab hin    hm)
abbrev cX8_setNodeWord : ByteArray := prog_10_method_5_code
def yX8_setNodeWord : MethodName := ⟨"SyncTree$Tree", "setNodeWord", "(IIJ)V"⟩
theorem Y_X8_setNodeWord : tY yX8_setNodeWord cX8_setNodeWord 5 none 3 := ⟨W_2_155, W_1_4, ⟨by decide +kernel, by decide +kernel⟩, by decide +kernel⟩
theorem dX8_setNodeWord_0 : decode cX8_setNodeWord 0 = .ok (.iload_n 1, 1) := by decide +kernel
theorem dX8_setNodeWord_1 : decode cX8_setNodeWord 1 = .ok (.ifCond .lt 46, 3) := by decide +kernel
theorem dX8_setNodeWord_4 : decode cX8_setNodeWord 4 = .ok (.iload_n 1, 1) := by decide +kernel
theorem dX8_setNodeWord_5 : decode cX8_setNodeWord 5 = .ok (.bipush 64, 2) := by decide +kernel
theorem dX8_setNodeWord_7 : decode cX8_setNodeWord 7 = .ok (.if_icmp .ge 40, 3) := by decide +kernel
theorem dX8_setNodeWord_10 : decode cX8_setNodeWord 10 = .ok (.iload_n 2, 1) := by decide +kernel
theorem dX8_setNodeWord_11 : decode cX8_setNodeWord 11 = .ok (.ifCond .lt 36, 3) := by decide +kernel
theorem dX8_setNodeWord_14 : decode cX8_setNodeWord 14 = .ok (.iload_n 2, 1) := by decide +kernel
theorem dX8_setNodeWord_15 : decode cX8_setNodeWord 15 = .ok (.bipush 16, 2) := by decide +kernel
theorem dX8_setNodeWord_17 : decode cX8_setNodeWord 17 = .ok (.if_icmp .ge 30, 3) := by decide +kernel
theorem dX8_setNodeWord_20 : decode cX8_setNodeWord 20 = .ok (.aload_n 0, 1) := by decide +kernel
theorem dX8_setNodeWord_21 : decode cX8_setNodeWord 21 = .ok (.getfield 25, 3) := by decide +kernel
theorem dX8_setNodeWord_24 : decode cX8_setNodeWord 24 = .ok (.bipush 64, 2) := by decide +kernel
theorem dX8_setNodeWord_26 : decode cX8_setNodeWord 26 = .ok (.iload_n 1, 1) := by decide +kernel
theorem dX8_setNodeWord_27 : decode cX8_setNodeWord 27 = .ok (.bipush 16, 2) := by decide +kernel
theorem dX8_setNodeWord_29 : decode cX8_setNodeWord 29 = .ok (.imul, 1) := by decide +kernel
theorem dX8_setNodeWord_30 : decode cX8_setNodeWord 30 = .ok (.iadd, 1) := by decide +kernel
theorem dX8_setNodeWord_31 : decode cX8_setNodeWord 31 = .ok (.iload_n 2, 1) := by decide +kernel
theorem dX8_setNodeWord_32 : decode cX8_setNodeWord 32 = .ok (.iadd, 1) := by decide +kernel
theorem dX8_setNodeWord_33 : decode cX8_setNodeWord 33 = .ok (.lload_n 3, 1) := by decide +kernel
theorem dX8_setNodeWord_34 : decode cX8_setNodeWord 34 = .ok (.lastore, 1) := by decide +kernel
theorem dX8_setNodeWord_35 : decode cX8_setNodeWord 35 = .ok (.aload_n 0, 1) := by decide +kernel
theorem dX8_setNodeWord_36 : decode cX8_setNodeWord 36 = .ok (.getfield 15, 3) := by decide +kernel
theorem dX8_setNodeWord_39 : decode cX8_setNodeWord 39 = .ok (.iconst 2, 1) := by decide +kernel
theorem dX8_setNodeWord_40 : decode cX8_setNodeWord 40 = .ok (.iload_n 1, 1) := by decide +kernel
theorem dX8_setNodeWord_41 : decode cX8_setNodeWord 41 = .ok (.iconst 2, 1) := by decide +kernel
theorem dX8_setNodeWord_42 : decode cX8_setNodeWord 42 = .ok (.idiv, 1) := by decide +kernel
theorem dX8_setNodeWord_43 : decode cX8_setNodeWord 43 = .ok (.iadd, 1) := by decide +kernel
theorem dX8_setNodeWord_44 : decode cX8_setNodeWord 44 = .ok (.invokevirtual 26, 3) := by decide +kernel
theorem dX8_setNodeWord_47 : decode cX8_setNodeWord 47 = .ok (.return_, 1) := by decide +kernel
set_option maxRecDepth 100000 in
set_option maxHeartbeats 1000000 in
theorem j_X8_setNodeWord_47 {p : Program} {l : Launch} {e : Env} {s : State} {m : MethodId} {args : Array Value} {below : List Frame} {meth : Method} {c : Code} {D : va_G} {aC : Nat → ClassId} {b0 fu : Nat} {σ0 τ : tM} {v : Unit}  (C : tCx p l s m args meth c yX8_setNodeWord.cls cX8_setNodeWord 5 none D aC b0 σ0) (htab : ∀ x ∈ c.exceptionTable.toList, False) (hin : meth.name = yX8_setNodeWord.name)   {σ : tM} (hm : J_X8_setNodeWord_47 b0 fu   σ = some (v, τ)) : tX p l e s m args below meth c 5 1 21 D aC b0 σ0 (.inl none) τ 47 [] [] σ := by
  unfold J_X8_setNodeWord_47 at hm
  obtain ⟨rfl, rfl⟩ := ret_e hm
  exact zx_vret C rfl rfl rfl dX8_setNodeWord_47
set_option maxRecDepth 100000 in
set_option maxHeartbeats 1000000 in
theorem c_X8_setNodeWord {l : Launch} {D : va_G} {aC : Nat → ClassId} {b0 fu : Nat} {a0 : Nat} {p0 : Int32} {p1 : Int32} {p2 : Int64} {σ τ : tM} {v : Unit} (hm : m_X8_setNodeWord b0 fu a0 p0 p1 p2 σ = some (v, τ)) : tMt l D aC b0 yX8_setNodeWord (Cond.code yX8_setNodeWord cX8_setNodeWord 5 none) 1 21 [.ref (a0), .int (p0), .int (p1), .long (p2)] σ (.inl none) τ := by
  unfold m_X8_setNodeWord at hm
  obtain ⟨hg, hm⟩ := grw_e hm
  refine tMt_of (n := 0) rfl (Nat.le_of_ble_eq_true rfl) hg ?_
  intro p e s m below meth c C htab hin
  refine zx_lv [0, 1, 2, 3] [(0, .ref (a0)), (1, .int (p0)), (2, .int (p1)), (3, .long (p2))] rfl ?_
  refine zx_iload_n C dX8_setNodeWord_0 1 rfl ?_
  refine zx_if_lt C 47 dX8_setNodeWord_1 (by decide) (fun c1 => ?_) (fun c1 => ?_)
  · replace hm := ip_e hm c1
    exact zx_lv [] [] rfl (j_X8_setNodeWord_47 C htab hin    hm)
  · replace hm := in_e hm c1
    refine zx_iload_n C dX8_setNodeWord_4 1 rfl ?_
    refine zx_bipush (v := 64) C dX8_setNodeWord_5 (by decide) ?_
    refine zx_icmp_ge C 47 dX8_setNodeWord_7 (by decide) (fun c2 => ?_) (fun c2 => ?_)
    · replace hm := ip_e hm c2
      exact zx_lv [] [] rfl (j_X8_setNodeWord_47 C htab hin    hm)
    · replace hm := in_e hm c2
      refine zx_iload_n C dX8_setNodeWord_10 2 rfl ?_
      refine zx_if_lt C 47 dX8_setNodeWord_11 (by decide) (fun c3 => ?_) (fun c3 => ?_)
      · replace hm := ip_e hm c3
        exact zx_lv [] [] rfl (j_X8_setNodeWord_47 C htab hin    hm)
      · replace hm := in_e hm c3
        refine zx_iload_n C dX8_setNodeWord_14 2 rfl ?_
        refine zx_bipush (v := 16) C dX8_setNodeWord_15 (by decide) ?_
        refine zx_icmp_ge C 47 dX8_setNodeWord_17 (by decide) (fun c4 => ?_) (fun c4 => ?_)
        · replace hm := ip_e hm c4
          exact zx_lv [] [] rfl (j_X8_setNodeWord_47 C htab hin    hm)
        · replace hm := in_e hm c4
          refine zx_aload_n C dX8_setNodeWord_20 0 rfl ?_
          obtain ⟨k5, i6, hm⟩ := ckO_e hm
          obtain ⟨a7, h8, hm⟩ := osm_e hm
          refine zx_get (j := 1) C tC_8 k5 i6 ⟨by decide, Or.inl W_1_164⟩ dX8_setNodeWord_21 (.ref a7) (rf_s h8) ?_
          refine zx_bipush (v := 64) C dX8_setNodeWord_24 (by decide) ?_
          refine zx_iload_n C dX8_setNodeWord_26 1 rfl ?_
          refine zx_bipush (v := 16) C dX8_setNodeWord_27 (by decide) ?_
          refine zx_imul C dX8_setNodeWord_29 ?_
          refine zx_iadd C dX8_setNodeWord_30 ?_
          refine zx_iload_n C dX8_setNodeWord_31 2 rfl ?_
          refine zx_iadd C dX8_setNodeWord_32 ?_
          refine zx_lload_n C dX8_setNodeWord_33 3 rfl ?_
          obtain ⟨n11, k9, i10, hm⟩ := ckR_e hm
          obtain ⟨h12, hm⟩ := ckI_e hm
          refine zx_last C k9 i10 h12 dX8_setNodeWord_34 ?_
          refine zx_aload_n C dX8_setNodeWord_35 0 rfl ?_
          obtain ⟨a13, h14, hm⟩ := osm_e hm
          refine zx_get (j := 0) C tC_8 k5 i6 ⟨by decide, Or.inl W_1_163⟩ dX8_setNodeWord_36 (.ref a13) (rf_s h14) ?_
          refine zx_iconst (v := 2) C dX8_setNodeWord_39 (by decide) ?_
          refine zx_iload_n C dX8_setNodeWord_40 1 rfl ?_
          refine zx_iconst (v := 2) C dX8_setNodeWord_41 (by decide) ?_
          refine zx_idiv C dX8_setNodeWord_42 (by decide) ?_
          refine zx_iadd C dX8_setNodeWord_43 ?_
          obtain ⟨k15, i16, hm⟩ := ckO_e hm
          obtain ⟨v17, ρ18, h19, hm⟩ := cll_e hm
          refine zx_callV (σ := sL (σ) (a7) ((((64) + ((p0) * (16))) + (p1)).toNatClampNeg) (p2)) C [.int ((2) + ((p0) / (2)))] tC_5 k15 i16 Y_X5_touch W_2_156 W_2_157 W_2_158 (c_X5_touch h19) (by decide) (by decide) rfl (Nat.le_of_ble_eq_true rfl) dX8_setNodeWord_44 rfl ?_
          exact zx_lv [] [] rfl (j_X8_setNodeWord_47 C htab hin    hm)
abbrev cX8_kind : ByteArray := prog_10_method_6_code
def yX8_kind : MethodName := ⟨"SyncTree$Tree", "kind", "(I)I"⟩
theorem Y_X8_kind : tY yX8_kind cX8_kind 2 (some .int) 1 := ⟨W_3_82, W_1_4, ⟨by decide +kernel, by decide +kernel⟩, by decide +kernel⟩
theorem dX8_kind_0 : decode cX8_kind 0 = .ok (.aload_n 0, 1) := by decide +kernel
theorem dX8_kind_1 : decode cX8_kind 1 = .ok (.iload_n 1, 1) := by decide +kernel
theorem dX8_kind_2 : decode cX8_kind 2 = .ok (.iconst 0, 1) := by decide +kernel
theorem dX8_kind_3 : decode cX8_kind 3 = .ok (.invokevirtual 30, 3) := by decide +kernel
theorem dX8_kind_6 : decode cX8_kind 6 = .ok (.ldc2_w 34, 3) := by decide +kernel
theorem dX8_kind_9 : decode cX8_kind 9 = .ok (.land, 1) := by decide +kernel
theorem dX8_kind_10 : decode cX8_kind 10 = .ok (.l2i, 1) := by decide +kernel
theorem dX8_kind_11 : decode cX8_kind 11 = .ok (.ireturn, 1) := by decide +kernel
set_option maxRecDepth 100000 in
set_option maxHeartbeats 1000000 in
theorem c_X8_kind {l : Launch} {D : va_G} {aC : Nat → ClassId} {b0 fu : Nat} {a0 : Nat} {p0 : Int32} {σ τ : tM} {v : Int32} (hm : m_X8_kind b0 fu a0 p0 σ = some (v, τ)) : tMt l D aC b0 yX8_kind (Cond.code yX8_kind cX8_kind 2 (some .int)) 1 22 [.ref (a0), .int (p0)] σ (.inl (some (.int v))) τ := by
  unfold m_X8_kind at hm
  obtain ⟨hg, hm⟩ := grw_e hm
  refine tMt_of (n := 0) rfl (Nat.le_of_ble_eq_true rfl) hg ?_
  intro p e s m below meth c C htab hin
  refine zx_lv [0, 1] [(0, .ref (a0)), (1, .int (p0))] rfl ?_
  refine zx_aload_n C dX8_kind_0 0 rfl ?_
  refine zx_iload_n C dX8_kind_1 1 rfl ?_
  refine zx_iconst (v := 0) C dX8_kind_2 (by decide) ?_
  obtain ⟨k1, i2, hm⟩ := ckO_e hm
  obtain ⟨v3, ρ4, h5, hm⟩ := cll_e hm
  refine zx_callV (σ := σ) C [.int (p0), .int (0)] tC_8 k1 i2 Y_X8_nodeWord W_3_83 W_3_84 W_3_85 (c_X8_nodeWord h5) (by decide) (by decide) rfl (Nat.le_of_ble_eq_true rfl) dX8_kind_3 rfl ?_
  refine zx_ldc2 (v := 255) C W_3_87 dX8_kind_6 ?_
  refine zx_land C dX8_kind_9 ?_
  refine zx_l2i C dX8_kind_10 ?_
  obtain ⟨rfl, rfl⟩ := ret_e hm
  exact zx_iret C rfl rfl rfl dX8_kind_11
abbrev cX8_names : ByteArray := prog_10_method_7_code
def yX8_names : MethodName := ⟨"SyncTree$Tree", "names", "(I)I"⟩
theorem Y_X8_names : tY yX8_names cX8_names 2 (some .int) 1 := ⟨W_4_193, W_1_4, ⟨by decide +kernel, by decide +kernel⟩, by decide +kernel⟩
theorem dX8_names_0 : decode cX8_names 0 = .ok (.aload_n 0, 1) := by decide +kernel
theorem dX8_names_1 : decode cX8_names 1 = .ok (.iload_n 1, 1) := by decide +kernel
theorem dX8_names_2 : decode cX8_names 2 = .ok (.iconst 0, 1) := by decide +kernel
theorem dX8_names_3 : decode cX8_names 3 = .ok (.invokevirtual 30, 3) := by decide +kernel
theorem dX8_names_6 : decode cX8_names 6 = .ok (.bipush 8, 2) := by decide +kernel
theorem dX8_names_8 : decode cX8_names 8 = .ok (.lushr, 1) := by decide +kernel
theorem dX8_names_9 : decode cX8_names 9 = .ok (.ldc2_w 34, 3) := by decide +kernel
theorem dX8_names_12 : decode cX8_names 12 = .ok (.land, 1) := by decide +kernel
theorem dX8_names_13 : decode cX8_names 13 = .ok (.l2i, 1) := by decide +kernel
theorem dX8_names_14 : decode cX8_names 14 = .ok (.ireturn, 1) := by decide +kernel
set_option maxRecDepth 100000 in
set_option maxHeartbeats 1000000 in
theorem c_X8_names {l : Launch} {D : va_G} {aC : Nat → ClassId} {b0 fu : Nat} {a0 : Nat} {p0 : Int32} {σ τ : tM} {v : Int32} (hm : m_X8_names b0 fu a0 p0 σ = some (v, τ)) : tMt l D aC b0 yX8_names (Cond.code yX8_names cX8_names 2 (some .int)) 1 22 [.ref (a0), .int (p0)] σ (.inl (some (.int v))) τ := by
  unfold m_X8_names at hm
  obtain ⟨hg, hm⟩ := grw_e hm
  refine tMt_of (n := 0) rfl (Nat.le_of_ble_eq_true rfl) hg ?_
  intro p e s m below meth c C htab hin
  refine zx_lv [0, 1] [(0, .ref (a0)), (1, .int (p0))] rfl ?_
  refine zx_aload_n C dX8_names_0 0 rfl ?_
  refine zx_iload_n C dX8_names_1 1 rfl ?_
  refine zx_iconst (v := 0) C dX8_names_2 (by decide) ?_
  obtain ⟨k1, i2, hm⟩ := ckO_e hm
  obtain ⟨v3, ρ4, h5, hm⟩ := cll_e hm
  refine zx_callV (σ := σ) C [.int (p0), .int (0)] tC_8 k1 i2 Y_X8_nodeWord W_3_83 W_3_84 W_3_85 (c_X8_nodeWord h5) (by decide) (by decide) rfl (Nat.le_of_ble_eq_true rfl) dX8_names_3 rfl ?_
  refine zx_bipush (v := 8) C dX8_names_6 (by decide) ?_
  refine zx_lushr C dX8_names_8 ?_
  refine zx_ldc2 (v := 255) C W_3_87 dX8_names_9 ?_
  refine zx_land C dX8_names_12 ?_
  refine zx_l2i C dX8_names_13 ?_
  obtain ⟨rfl, rfl⟩ := ret_e hm
  exact zx_iret C rfl rfl rfl dX8_names_14
abbrev cX8_parent : ByteArray := prog_10_method_8_code
def yX8_parent : MethodName := ⟨"SyncTree$Tree", "parent", "(I)I"⟩
theorem Y_X8_parent : tY yX8_parent cX8_parent 2 (some .int) 1 := ⟨W_4_99, W_1_4, ⟨by decide +kernel, by decide +kernel⟩, by decide +kernel⟩
theorem dX8_parent_0 : decode cX8_parent 0 = .ok (.aload_n 0, 1) := by decide +kernel
theorem dX8_parent_1 : decode cX8_parent 1 = .ok (.iload_n 1, 1) := by decide +kernel
theorem dX8_parent_2 : decode cX8_parent 2 = .ok (.iconst 0, 1) := by decide +kernel
theorem dX8_parent_3 : decode cX8_parent 3 = .ok (.invokevirtual 30, 3) := by decide +kernel
theorem dX8_parent_6 : decode cX8_parent 6 = .ok (.bipush 16, 2) := by decide +kernel
theorem dX8_parent_8 : decode cX8_parent 8 = .ok (.lushr, 1) := by decide +kernel
theorem dX8_parent_9 : decode cX8_parent 9 = .ok (.ldc2_w 34, 3) := by decide +kernel
theorem dX8_parent_12 : decode cX8_parent 12 = .ok (.land, 1) := by decide +kernel
theorem dX8_parent_13 : decode cX8_parent 13 = .ok (.l2i, 1) := by decide +kernel
theorem dX8_parent_14 : decode cX8_parent 14 = .ok (.ireturn, 1) := by decide +kernel
set_option maxRecDepth 100000 in
set_option maxHeartbeats 1000000 in
theorem c_X8_parent {l : Launch} {D : va_G} {aC : Nat → ClassId} {b0 fu : Nat} {a0 : Nat} {p0 : Int32} {σ τ : tM} {v : Int32} (hm : m_X8_parent b0 fu a0 p0 σ = some (v, τ)) : tMt l D aC b0 yX8_parent (Cond.code yX8_parent cX8_parent 2 (some .int)) 1 22 [.ref (a0), .int (p0)] σ (.inl (some (.int v))) τ := by
  unfold m_X8_parent at hm
  obtain ⟨hg, hm⟩ := grw_e hm
  refine tMt_of (n := 0) rfl (Nat.le_of_ble_eq_true rfl) hg ?_
  intro p e s m below meth c C htab hin
  refine zx_lv [0, 1] [(0, .ref (a0)), (1, .int (p0))] rfl ?_
  refine zx_aload_n C dX8_parent_0 0 rfl ?_
  refine zx_iload_n C dX8_parent_1 1 rfl ?_
  refine zx_iconst (v := 0) C dX8_parent_2 (by decide) ?_
  obtain ⟨k1, i2, hm⟩ := ckO_e hm
  obtain ⟨v3, ρ4, h5, hm⟩ := cll_e hm
  refine zx_callV (σ := σ) C [.int (p0), .int (0)] tC_8 k1 i2 Y_X8_nodeWord W_3_83 W_3_84 W_3_85 (c_X8_nodeWord h5) (by decide) (by decide) rfl (Nat.le_of_ble_eq_true rfl) dX8_parent_3 rfl ?_
  refine zx_bipush (v := 16) C dX8_parent_6 (by decide) ?_
  refine zx_lushr C dX8_parent_8 ?_
  refine zx_ldc2 (v := 255) C W_3_87 dX8_parent_9 ?_
  refine zx_land C dX8_parent_12 ?_
  refine zx_l2i C dX8_parent_13 ?_
  obtain ⟨rfl, rfl⟩ := ret_e hm
  exact zx_iret C rfl rfl rfl dX8_parent_14
abbrev cX8_size : ByteArray := prog_10_method_9_code
def yX8_size : MethodName := ⟨"SyncTree$Tree", "size", "(I)I"⟩
theorem Y_X8_size : tY yX8_size cX8_size 2 (some .int) 1 := ⟨W_4_135, W_1_4, ⟨by decide +kernel, by decide +kernel⟩, by decide +kernel⟩
theorem dX8_size_0 : decode cX8_size 0 = .ok (.aload_n 0, 1) := by decide +kernel
theorem dX8_size_1 : decode cX8_size 1 = .ok (.iload_n 1, 1) := by decide +kernel
theorem dX8_size_2 : decode cX8_size 2 = .ok (.iconst 0, 1) := by decide +kernel
theorem dX8_size_3 : decode cX8_size 3 = .ok (.invokevirtual 30, 3) := by decide +kernel
theorem dX8_size_6 : decode cX8_size 6 = .ok (.bipush 32, 2) := by decide +kernel
theorem dX8_size_8 : decode cX8_size 8 = .ok (.lushr, 1) := by decide +kernel
theorem dX8_size_9 : decode cX8_size 9 = .ok (.l2i, 1) := by decide +kernel
theorem dX8_size_10 : decode cX8_size 10 = .ok (.ireturn, 1) := by decide +kernel
set_option maxRecDepth 100000 in
set_option maxHeartbeats 1000000 in
theorem c_X8_size {l : Launch} {D : va_G} {aC : Nat → ClassId} {b0 fu : Nat} {a0 : Nat} {p0 : Int32} {σ τ : tM} {v : Int32} (hm : m_X8_size b0 fu a0 p0 σ = some (v, τ)) : tMt l D aC b0 yX8_size (Cond.code yX8_size cX8_size 2 (some .int)) 1 22 [.ref (a0), .int (p0)] σ (.inl (some (.int v))) τ := by
  unfold m_X8_size at hm
  obtain ⟨hg, hm⟩ := grw_e hm
  refine tMt_of (n := 0) rfl (Nat.le_of_ble_eq_true rfl) hg ?_
  intro p e s m below meth c C htab hin
  refine zx_lv [0, 1] [(0, .ref (a0)), (1, .int (p0))] rfl ?_
  refine zx_aload_n C dX8_size_0 0 rfl ?_
  refine zx_iload_n C dX8_size_1 1 rfl ?_
  refine zx_iconst (v := 0) C dX8_size_2 (by decide) ?_
  obtain ⟨k1, i2, hm⟩ := ckO_e hm
  obtain ⟨v3, ρ4, h5, hm⟩ := cll_e hm
  refine zx_callV (σ := σ) C [.int (p0), .int (0)] tC_8 k1 i2 Y_X8_nodeWord W_3_83 W_3_84 W_3_85 (c_X8_nodeWord h5) (by decide) (by decide) rfl (Nat.le_of_ble_eq_true rfl) dX8_size_3 rfl ?_
  refine zx_bipush (v := 32) C dX8_size_6 (by decide) ?_
  refine zx_lushr C dX8_size_8 ?_
  refine zx_l2i C dX8_size_9 ?_
  obtain ⟨rfl, rfl⟩ := ret_e hm
  exact zx_iret C rfl rfl rfl dX8_size_10
abbrev cX8_setHeader : ByteArray := prog_10_method_10_code
def yX8_setHeader : MethodName := ⟨"SyncTree$Tree", "setHeader", "(IIIII)V"⟩
theorem Y_X8_setHeader : tY yX8_setHeader cX8_setHeader 6 none 5 := ⟨W_2_151, W_1_4, ⟨by decide +kernel, by decide +kernel⟩, by decide +kernel⟩
theorem dX8_setHeader_0 : decode cX8_setHeader 0 = .ok (.aload_n 0, 1) := by decide +kernel
theorem dX8_setHeader_1 : decode cX8_setHeader 1 = .ok (.iload_n 1, 1) := by decide +kernel
theorem dX8_setHeader_2 : decode cX8_setHeader 2 = .ok (.iconst 0, 1) := by decide +kernel
theorem dX8_setHeader_3 : decode cX8_setHeader 3 = .ok (.iload 5, 2) := by decide +kernel
theorem dX8_setHeader_5 : decode cX8_setHeader 5 = .ok (.i2l, 1) := by decide +kernel
theorem dX8_setHeader_6 : decode cX8_setHeader 6 = .ok (.bipush 32, 2) := by decide +kernel
theorem dX8_setHeader_8 : decode cX8_setHeader 8 = .ok (.lshl, 1) := by decide +kernel
theorem dX8_setHeader_9 : decode cX8_setHeader 9 = .ok (.iload 4, 2) := by decide +kernel
theorem dX8_setHeader_11 : decode cX8_setHeader 11 = .ok (.i2l, 1) := by decide +kernel
theorem dX8_setHeader_12 : decode cX8_setHeader 12 = .ok (.bipush 16, 2) := by decide +kernel
theorem dX8_setHeader_14 : decode cX8_setHeader 14 = .ok (.lshl, 1) := by decide +kernel
theorem dX8_setHeader_15 : decode cX8_setHeader 15 = .ok (.lor, 1) := by decide +kernel
theorem dX8_setHeader_16 : decode cX8_setHeader 16 = .ok (.iload_n 3, 1) := by decide +kernel
theorem dX8_setHeader_17 : decode cX8_setHeader 17 = .ok (.i2l, 1) := by decide +kernel
theorem dX8_setHeader_18 : decode cX8_setHeader 18 = .ok (.bipush 8, 2) := by decide +kernel
theorem dX8_setHeader_20 : decode cX8_setHeader 20 = .ok (.lshl, 1) := by decide +kernel
theorem dX8_setHeader_21 : decode cX8_setHeader 21 = .ok (.lor, 1) := by decide +kernel
theorem dX8_setHeader_22 : decode cX8_setHeader 22 = .ok (.iload_n 2, 1) := by decide +kernel
theorem dX8_setHeader_23 : decode cX8_setHeader 23 = .ok (.i2l, 1) := by decide +kernel
theorem dX8_setHeader_24 : decode cX8_setHeader 24 = .ok (.lor, 1) := by decide +kernel
theorem dX8_setHeader_25 : decode cX8_setHeader 25 = .ok (.invokevirtual 36, 3) := by decide +kernel
theorem dX8_setHeader_28 : decode cX8_setHeader 28 = .ok (.return_, 1) := by decide +kernel
set_option maxRecDepth 100000 in
set_option maxHeartbeats 1000000 in
theorem c_X8_setHeader {l : Launch} {D : va_G} {aC : Nat → ClassId} {b0 fu : Nat} {a0 : Nat} {p0 : Int32} {p1 : Int32} {p2 : Int32} {p3 : Int32} {p4 : Int32} {σ τ : tM} {v : Unit} (hm : m_X8_setHeader b0 fu a0 p0 p1 p2 p3 p4 σ = some (v, τ)) : tMt l D aC b0 yX8_setHeader (Cond.code yX8_setHeader cX8_setHeader 6 none) 2 45 [.ref (a0), .int (p0), .int (p1), .int (p2), .int (p3), .int (p4)] σ (.inl none) τ := by
  unfold m_X8_setHeader at hm
  obtain ⟨hg, hm⟩ := grw_e hm
  refine tMt_of (n := 0) rfl (Nat.le_of_ble_eq_true rfl) hg ?_
  intro p e s m below meth c C htab hin
  refine zx_lv [0, 1, 2, 3, 4, 5] [(0, .ref (a0)), (1, .int (p0)), (2, .int (p1)), (3, .int (p2)), (4, .int (p3)), (5, .int (p4))] rfl ?_
  refine zx_aload_n C dX8_setHeader_0 0 rfl ?_
  refine zx_iload_n C dX8_setHeader_1 1 rfl ?_
  refine zx_iconst (v := 0) C dX8_setHeader_2 (by decide) ?_
  refine zx_iload C dX8_setHeader_3 5 rfl ?_
  refine zx_i2l C dX8_setHeader_5 ?_
  refine zx_bipush (v := 32) C dX8_setHeader_6 (by decide) ?_
  refine zx_lshl C dX8_setHeader_8 ?_
  refine zx_iload C dX8_setHeader_9 4 rfl ?_
  refine zx_i2l C dX8_setHeader_11 ?_
  refine zx_bipush (v := 16) C dX8_setHeader_12 (by decide) ?_
  refine zx_lshl C dX8_setHeader_14 ?_
  refine zx_lor C dX8_setHeader_15 ?_
  refine zx_iload_n C dX8_setHeader_16 3 rfl ?_
  refine zx_i2l C dX8_setHeader_17 ?_
  refine zx_bipush (v := 8) C dX8_setHeader_18 (by decide) ?_
  refine zx_lshl C dX8_setHeader_20 ?_
  refine zx_lor C dX8_setHeader_21 ?_
  refine zx_iload_n C dX8_setHeader_22 2 rfl ?_
  refine zx_i2l C dX8_setHeader_23 ?_
  refine zx_lor C dX8_setHeader_24 ?_
  obtain ⟨k1, i2, hm⟩ := ckO_e hm
  obtain ⟨v3, ρ4, h5, hm⟩ := cll_e hm
  refine zx_callV (σ := σ) C [.int (p0), .int (0), .long ((((((p4).toInt64) <<< (((32 : Int32)).toInt64 &&& 63)) ||| (((p3).toInt64) <<< (((16 : Int32)).toInt64 &&& 63))) ||| (((p2).toInt64) <<< (((8 : Int32)).toInt64 &&& 63))) ||| ((p1).toInt64))] tC_8 k1 i2 Y_X8_setNodeWord W_2_152 W_2_154 Wp_6 (c_X8_setNodeWord h5) (by decide) (by decide) rfl (Nat.le_of_ble_eq_true rfl) dX8_setHeader_25 rfl ?_
  obtain ⟨rfl, rfl⟩ := ret_e hm
  exact zx_vret C rfl rfl rfl dX8_setHeader_28
abbrev cX8_setNames : ByteArray := prog_10_method_11_code
def yX8_setNames : MethodName := ⟨"SyncTree$Tree", "setNames", "(II)V"⟩
theorem Y_X8_setNames : tY yX8_setNames cX8_setNames 3 none 2 := ⟨W_5_19, W_1_4, ⟨by decide +kernel, by decide +kernel⟩, by decide +kernel⟩
theorem dX8_setNames_0 : decode cX8_setNames 0 = .ok (.aload_n 0, 1) := by decide +kernel
theorem dX8_setNames_1 : decode cX8_setNames 1 = .ok (.iload_n 1, 1) := by decide +kernel
theorem dX8_setNames_2 : decode cX8_setNames 2 = .ok (.aload_n 0, 1) := by decide +kernel
theorem dX8_setNames_3 : decode cX8_setNames 3 = .ok (.iload_n 1, 1) := by decide +kernel
theorem dX8_setNames_4 : decode cX8_setNames 4 = .ok (.invokevirtual 40, 3) := by decide +kernel
theorem dX8_setNames_7 : decode cX8_setNames 7 = .ok (.iconst 0, 1) := by decide +kernel
theorem dX8_setNames_8 : decode cX8_setNames 8 = .ok (.iload_n 2, 1) := by decide +kernel
theorem dX8_setNames_9 : decode cX8_setNames 9 = .ok (.invokestatic 44, 3) := by decide +kernel
theorem dX8_setNames_12 : decode cX8_setNames 12 = .ok (.aload_n 0, 1) := by decide +kernel
theorem dX8_setNames_13 : decode cX8_setNames 13 = .ok (.iload_n 1, 1) := by decide +kernel
theorem dX8_setNames_14 : decode cX8_setNames 14 = .ok (.invokevirtual 50, 3) := by decide +kernel
theorem dX8_setNames_17 : decode cX8_setNames 17 = .ok (.aload_n 0, 1) := by decide +kernel
theorem dX8_setNames_18 : decode cX8_setNames 18 = .ok (.iload_n 1, 1) := by decide +kernel
theorem dX8_setNames_19 : decode cX8_setNames 19 = .ok (.invokevirtual 53, 3) := by decide +kernel
theorem dX8_setNames_22 : decode cX8_setNames 22 = .ok (.invokevirtual 56, 3) := by decide +kernel
theorem dX8_setNames_25 : decode cX8_setNames 25 = .ok (.return_, 1) := by decide +kernel
set_option maxRecDepth 100000 in
set_option maxHeartbeats 1000000 in
theorem c_X8_setNames {l : Launch} {D : va_G} {aC : Nat → ClassId} {b0 fu : Nat} {a0 : Nat} {p0 : Int32} {p1 : Int32} {σ τ : tM} {v : Unit} (hm : m_X8_setNames b0 fu a0 p0 p1 σ = some (v, τ)) : tMt l D aC b0 yX8_setNames (Cond.code yX8_setNames cX8_setNames 3 none) 3 70 [.ref (a0), .int (p0), .int (p1)] σ (.inl none) τ := by
  unfold m_X8_setNames at hm
  obtain ⟨hg, hm⟩ := grw_e hm
  refine tMt_of (n := 0) rfl (Nat.le_of_ble_eq_true rfl) hg ?_
  intro p e s m below meth c C htab hin
  refine zx_lv [0, 1, 2] [(0, .ref (a0)), (1, .int (p0)), (2, .int (p1))] rfl ?_
  refine zx_aload_n C dX8_setNames_0 0 rfl ?_
  refine zx_iload_n C dX8_setNames_1 1 rfl ?_
  refine zx_aload_n C dX8_setNames_2 0 rfl ?_
  refine zx_iload_n C dX8_setNames_3 1 rfl ?_
  obtain ⟨k1, i2, hm⟩ := ckO_e hm
  obtain ⟨v3, ρ4, h5, hm⟩ := cll_e hm
  refine zx_callV (σ := σ) C [.int (p0)] tC_8 k1 i2 Y_X8_kind W_3_79 W_3_80 W_3_81 (c_X8_kind h5) (by decide) (by decide) rfl (Nat.le_of_ble_eq_true rfl) dX8_setNames_4 rfl ?_
  refine zx_iconst (v := 0) C dX8_setNames_7 (by decide) ?_
  refine zx_iload_n C dX8_setNames_8 2 rfl ?_
  refine zx_max C W_5_20 W_2_109 W_1_10 W_2_110 (by decide) (by decide) (Nat.le_of_ble_eq_true rfl) dX8_setNames_9 ?_
  refine zx_aload_n C dX8_setNames_12 0 rfl ?_
  refine zx_iload_n C dX8_setNames_13 1 rfl ?_
  obtain ⟨k6, i7, hm⟩ := ckO_e hm
  obtain ⟨v8, ρ9, h10, hm⟩ := cll_e hm
  refine zx_callV (σ := ρ4) C [.int (p0)] tC_8 k6 i7 Y_X8_parent W_4_194 W_4_97 W_4_98 (c_X8_parent h10) (by decide) (by decide) rfl (Nat.le_of_ble_eq_true rfl) dX8_setNames_14 rfl ?_
  refine zx_aload_n C dX8_setNames_17 0 rfl ?_
  refine zx_iload_n C dX8_setNames_18 1 rfl ?_
  obtain ⟨k11, i12, hm⟩ := ckO_e hm
  obtain ⟨v13, ρ14, h15, hm⟩ := cll_e hm
  refine zx_callV (σ := ρ9) C [.int (p0)] tC_8 k11 i12 Y_X8_size W_4_224 W_4_133 W_4_134 (c_X8_size h15) (by decide) (by decide) rfl (Nat.le_of_ble_eq_true rfl) dX8_setNames_19 rfl ?_
  obtain ⟨k16, i17, hm⟩ := ckO_e hm
  obtain ⟨v18, ρ19, h20, hm⟩ := cll_e hm
  refine zx_callV (σ := ρ14) C [.int (p0), .int (v3), .int ((if ((0 : Int32)) < (p1) then (p1) else (0) : Int32)), .int (v8), .int (v13)] tC_8 k16 i17 Y_X8_setHeader W_2_148 W_2_150 Wp_5 (c_X8_setHeader h20) (by decide) (by decide) rfl (Nat.le_of_ble_eq_true rfl) dX8_setNames_22 rfl ?_
  obtain ⟨rfl, rfl⟩ := ret_e hm
  exact zx_vret C rfl rfl rfl dX8_setNames_25
abbrev cX8_setParent : ByteArray := prog_10_method_12_code
def yX8_setParent : MethodName := ⟨"SyncTree$Tree", "setParent", "(II)V"⟩
theorem Y_X8_setParent : tY yX8_setParent cX8_setParent 3 none 2 := ⟨W_5_122, W_1_4, ⟨by decide +kernel, by decide +kernel⟩, by decide +kernel⟩
theorem dX8_setParent_0 : decode cX8_setParent 0 = .ok (.aload_n 0, 1) := by decide +kernel
theorem dX8_setParent_1 : decode cX8_setParent 1 = .ok (.iload_n 1, 1) := by decide +kernel
theorem dX8_setParent_2 : decode cX8_setParent 2 = .ok (.aload_n 0, 1) := by decide +kernel
theorem dX8_setParent_3 : decode cX8_setParent 3 = .ok (.iload_n 1, 1) := by decide +kernel
theorem dX8_setParent_4 : decode cX8_setParent 4 = .ok (.invokevirtual 40, 3) := by decide +kernel
theorem dX8_setParent_7 : decode cX8_setParent 7 = .ok (.aload_n 0, 1) := by decide +kernel
theorem dX8_setParent_8 : decode cX8_setParent 8 = .ok (.iload_n 1, 1) := by decide +kernel
theorem dX8_setParent_9 : decode cX8_setParent 9 = .ok (.invokevirtual 60, 3) := by decide +kernel
theorem dX8_setParent_12 : decode cX8_setParent 12 = .ok (.iload_n 2, 1) := by decide +kernel
theorem dX8_setParent_13 : decode cX8_setParent 13 = .ok (.aload_n 0, 1) := by decide +kernel
theorem dX8_setParent_14 : decode cX8_setParent 14 = .ok (.iload_n 1, 1) := by decide +kernel
theorem dX8_setParent_15 : decode cX8_setParent 15 = .ok (.invokevirtual 53, 3) := by decide +kernel
theorem dX8_setParent_18 : decode cX8_setParent 18 = .ok (.invokevirtual 56, 3) := by decide +kernel
theorem dX8_setParent_21 : decode cX8_setParent 21 = .ok (.return_, 1) := by decide +kernel
set_option maxRecDepth 100000 in
set_option maxHeartbeats 1000000 in
theorem c_X8_setParent {l : Launch} {D : va_G} {aC : Nat → ClassId} {b0 fu : Nat} {a0 : Nat} {p0 : Int32} {p1 : Int32} {σ τ : tM} {v : Unit} (hm : m_X8_setParent b0 fu a0 p0 p1 σ = some (v, τ)) : tMt l D aC b0 yX8_setParent (Cond.code yX8_setParent cX8_setParent 3 none) 3 70 [.ref (a0), .int (p0), .int (p1)] σ (.inl none) τ := by
  unfold m_X8_setParent at hm
  obtain ⟨hg, hm⟩ := grw_e hm
  refine tMt_of (n := 0) rfl (Nat.le_of_ble_eq_true rfl) hg ?_
  intro p e s m below meth c C htab hin
  refine zx_lv [0, 1, 2] [(0, .ref (a0)), (1, .int (p0)), (2, .int (p1))] rfl ?_
  refine zx_aload_n C dX8_setParent_0 0 rfl ?_
  refine zx_iload_n C dX8_setParent_1 1 rfl ?_
  refine zx_aload_n C dX8_setParent_2 0 rfl ?_
  refine zx_iload_n C dX8_setParent_3 1 rfl ?_
  obtain ⟨k1, i2, hm⟩ := ckO_e hm
  obtain ⟨v3, ρ4, h5, hm⟩ := cll_e hm
  refine zx_callV (σ := σ) C [.int (p0)] tC_8 k1 i2 Y_X8_kind W_3_79 W_3_80 W_3_81 (c_X8_kind h5) (by decide) (by decide) rfl (Nat.le_of_ble_eq_true rfl) dX8_setParent_4 rfl ?_
  refine zx_aload_n C dX8_setParent_7 0 rfl ?_
  refine zx_iload_n C dX8_setParent_8 1 rfl ?_
  obtain ⟨k6, i7, hm⟩ := ckO_e hm
  obtain ⟨v8, ρ9, h10, hm⟩ := cll_e hm
  refine zx_callV (σ := ρ4) C [.int (p0)] tC_8 k6 i7 Y_X8_names W_4_190 W_4_191 W_4_192 (c_X8_names h10) (by decide) (by decide) rfl (Nat.le_of_ble_eq_true rfl) dX8_setParent_9 rfl ?_
  refine zx_iload_n C dX8_setParent_12 2 rfl ?_
  refine zx_aload_n C dX8_setParent_13 0 rfl ?_
  refine zx_iload_n C dX8_setParent_14 1 rfl ?_
  obtain ⟨k11, i12, hm⟩ := ckO_e hm
  obtain ⟨v13, ρ14, h15, hm⟩ := cll_e hm
  refine zx_callV (σ := ρ9) C [.int (p0)] tC_8 k11 i12 Y_X8_size W_4_224 W_4_133 W_4_134 (c_X8_size h15) (by decide) (by decide) rfl (Nat.le_of_ble_eq_true rfl) dX8_setParent_15 rfl ?_
  obtain ⟨k16, i17, hm⟩ := ckO_e hm
  obtain ⟨v18, ρ19, h20, hm⟩ := cll_e hm
  refine zx_callV (σ := ρ14) C [.int (p0), .int (v3), .int (v8), .int (p1), .int (v13)] tC_8 k16 i17 Y_X8_setHeader W_2_148 W_2_150 Wp_5 (c_X8_setHeader h20) (by decide) (by decide) rfl (Nat.le_of_ble_eq_true rfl) dX8_setParent_18 rfl ?_
  obtain ⟨rfl, rfl⟩ := ret_e hm
  exact zx_vret C rfl rfl rfl dX8_setParent_21
abbrev cX8_setSize : ByteArray := prog_10_method_13_code
def yX8_setSize : MethodName := ⟨"SyncTree$Tree", "setSize", "(II)V"⟩
theorem Y_X8_setSize : tY yX8_setSize cX8_setSize 3 none 2 := ⟨W_4_189, W_1_4, ⟨by decide +kernel, by decide +kernel⟩, by decide +kernel⟩
theorem dX8_setSize_0 : decode cX8_setSize 0 = .ok (.aload_n 0, 1) := by decide +kernel
theorem dX8_setSize_1 : decode cX8_setSize 1 = .ok (.iload_n 1, 1) := by decide +kernel
theorem dX8_setSize_2 : decode cX8_setSize 2 = .ok (.aload_n 0, 1) := by decide +kernel
theorem dX8_setSize_3 : decode cX8_setSize 3 = .ok (.iload_n 1, 1) := by decide +kernel
theorem dX8_setSize_4 : decode cX8_setSize 4 = .ok (.invokevirtual 40, 3) := by decide +kernel
theorem dX8_setSize_7 : decode cX8_setSize 7 = .ok (.aload_n 0, 1) := by decide +kernel
theorem dX8_setSize_8 : decode cX8_setSize 8 = .ok (.iload_n 1, 1) := by decide +kernel
theorem dX8_setSize_9 : decode cX8_setSize 9 = .ok (.invokevirtual 60, 3) := by decide +kernel
theorem dX8_setSize_12 : decode cX8_setSize 12 = .ok (.aload_n 0, 1) := by decide +kernel
theorem dX8_setSize_13 : decode cX8_setSize 13 = .ok (.iload_n 1, 1) := by decide +kernel
theorem dX8_setSize_14 : decode cX8_setSize 14 = .ok (.invokevirtual 50, 3) := by decide +kernel
theorem dX8_setSize_17 : decode cX8_setSize 17 = .ok (.iload_n 2, 1) := by decide +kernel
theorem dX8_setSize_18 : decode cX8_setSize 18 = .ok (.invokevirtual 56, 3) := by decide +kernel
theorem dX8_setSize_21 : decode cX8_setSize 21 = .ok (.return_, 1) := by decide +kernel
set_option maxRecDepth 100000 in
set_option maxHeartbeats 1000000 in
theorem c_X8_setSize {l : Launch} {D : va_G} {aC : Nat → ClassId} {b0 fu : Nat} {a0 : Nat} {p0 : Int32} {p1 : Int32} {σ τ : tM} {v : Unit} (hm : m_X8_setSize b0 fu a0 p0 p1 σ = some (v, τ)) : tMt l D aC b0 yX8_setSize (Cond.code yX8_setSize cX8_setSize 3 none) 3 70 [.ref (a0), .int (p0), .int (p1)] σ (.inl none) τ := by
  unfold m_X8_setSize at hm
  obtain ⟨hg, hm⟩ := grw_e hm
  refine tMt_of (n := 0) rfl (Nat.le_of_ble_eq_true rfl) hg ?_
  intro p e s m below meth c C htab hin
  refine zx_lv [0, 1, 2] [(0, .ref (a0)), (1, .int (p0)), (2, .int (p1))] rfl ?_
  refine zx_aload_n C dX8_setSize_0 0 rfl ?_
  refine zx_iload_n C dX8_setSize_1 1 rfl ?_
  refine zx_aload_n C dX8_setSize_2 0 rfl ?_
  refine zx_iload_n C dX8_setSize_3 1 rfl ?_
  obtain ⟨k1, i2, hm⟩ := ckO_e hm
  obtain ⟨v3, ρ4, h5, hm⟩ := cll_e hm
  refine zx_callV (σ := σ) C [.int (p0)] tC_8 k1 i2 Y_X8_kind W_3_79 W_3_80 W_3_81 (c_X8_kind h5) (by decide) (by decide) rfl (Nat.le_of_ble_eq_true rfl) dX8_setSize_4 rfl ?_
  refine zx_aload_n C dX8_setSize_7 0 rfl ?_
  refine zx_iload_n C dX8_setSize_8 1 rfl ?_
  obtain ⟨k6, i7, hm⟩ := ckO_e hm
  obtain ⟨v8, ρ9, h10, hm⟩ := cll_e hm
  refine zx_callV (σ := ρ4) C [.int (p0)] tC_8 k6 i7 Y_X8_names W_4_190 W_4_191 W_4_192 (c_X8_names h10) (by decide) (by decide) rfl (Nat.le_of_ble_eq_true rfl) dX8_setSize_9 rfl ?_
  refine zx_aload_n C dX8_setSize_12 0 rfl ?_
  refine zx_iload_n C dX8_setSize_13 1 rfl ?_
  obtain ⟨k11, i12, hm⟩ := ckO_e hm
  obtain ⟨v13, ρ14, h15, hm⟩ := cll_e hm
  refine zx_callV (σ := ρ9) C [.int (p0)] tC_8 k11 i12 Y_X8_parent W_4_194 W_4_97 W_4_98 (c_X8_parent h15) (by decide) (by decide) rfl (Nat.le_of_ble_eq_true rfl) dX8_setSize_14 rfl ?_
  refine zx_iload_n C dX8_setSize_17 2 rfl ?_
  obtain ⟨k16, i17, hm⟩ := ckO_e hm
  obtain ⟨v18, ρ19, h20, hm⟩ := cll_e hm
  refine zx_callV (σ := ρ14) C [.int (p0), .int (v3), .int (v8), .int (v13), .int (p1)] tC_8 k16 i17 Y_X8_setHeader W_2_148 W_2_150 Wp_5 (c_X8_setHeader h20) (by decide) (by decide) rfl (Nat.le_of_ble_eq_true rfl) dX8_setSize_18 rfl ?_
  obtain ⟨rfl, rfl⟩ := ret_e hm
  exact zx_vret C rfl rfl rfl dX8_setSize_21
abbrev cX8_setText : ByteArray := prog_10_method_15_code
def yX8_setText : MethodName := ⟨"SyncTree$Tree", "setText", "(ILSyncTree$PathText;)V"⟩
theorem Y_X8_setText : tY yX8_setText cX8_setText 6 none 2 := ⟨W_4_178, W_1_4, ⟨by decide +kernel, by decide +kernel⟩, by decide +kernel⟩
theorem dX8_setText_0 : decode cX8_setText 0 = .ok (.aload_n 2, 1) := by decide +kernel
theorem dX8_setText_1 : decode cX8_setText 1 = .ok (.getfield 67, 3) := by decide +kernel
theorem dX8_setText_4 : decode cX8_setText 4 = .ok (.bipush 80, 2) := by decide +kernel
theorem dX8_setText_6 : decode cX8_setText 6 = .ok (.invokestatic 73, 3) := by decide +kernel
theorem dX8_setText_9 : decode cX8_setText 9 = .ok (.istore_n 3, 1) := by decide +kernel
theorem dX8_setText_10 : decode cX8_setText 10 = .ok (.iload_n 1, 1) := by decide +kernel
theorem dX8_setText_11 : decode cX8_setText 11 = .ok (.iconst 1, 1) := by decide +kernel
theorem dX8_setText_12 : decode cX8_setText 12 = .ok (.iand, 1) := by decide +kernel
theorem dX8_setText_13 : decode cX8_setText 13 = .ok (.bipush 16, 2) := by decide +kernel
theorem dX8_setText_15 : decode cX8_setText 15 = .ok (.imul, 1) := by decide +kernel
theorem dX8_setText_16 : decode cX8_setText 16 = .ok (.iconst 1, 1) := by decide +kernel
theorem dX8_setText_17 : decode cX8_setText 17 = .ok (.iadd, 1) := by decide +kernel
theorem dX8_setText_18 : decode cX8_setText 18 = .ok (.bipush 8, 2) := by decide +kernel
theorem dX8_setText_20 : decode cX8_setText 20 = .ok (.imul, 1) := by decide +kernel
theorem dX8_setText_21 : decode cX8_setText 21 = .ok (.istore 4, 2) := by decide +kernel
theorem dX8_setText_23 : decode cX8_setText 23 = .ok (.iconst 0, 1) := by decide +kernel
theorem dX8_setText_24 : decode cX8_setText 24 = .ok (.istore 5, 2) := by decide +kernel
theorem dX8_setText_26 : decode cX8_setText 26 = .ok (.iload 5, 2) := by decide +kernel
theorem dX8_setText_28 : decode cX8_setText 28 = .ok (.iload_n 3, 1) := by decide +kernel
theorem dX8_setText_29 : decode cX8_setText 29 = .ok (.if_icmp .ge 33, 3) := by decide +kernel
theorem dX8_setText_32 : decode cX8_setText 32 = .ok (.aload_n 0, 1) := by decide +kernel
theorem dX8_setText_33 : decode cX8_setText 33 = .ok (.getfield 15, 3) := by decide +kernel
theorem dX8_setText_36 : decode cX8_setText 36 = .ok (.iconst 2, 1) := by decide +kernel
theorem dX8_setText_37 : decode cX8_setText 37 = .ok (.iload_n 1, 1) := by decide +kernel
theorem dX8_setText_38 : decode cX8_setText 38 = .ok (.iconst 2, 1) := by decide +kernel
theorem dX8_setText_39 : decode cX8_setText 39 = .ok (.idiv, 1) := by decide +kernel
theorem dX8_setText_40 : decode cX8_setText 40 = .ok (.iadd, 1) := by decide +kernel
theorem dX8_setText_41 : decode cX8_setText 41 = .ok (.iload 4, 2) := by decide +kernel
theorem dX8_setText_43 : decode cX8_setText 43 = .ok (.iload 5, 2) := by decide +kernel
theorem dX8_setText_45 : decode cX8_setText 45 = .ok (.iadd, 1) := by decide +kernel
theorem dX8_setText_46 : decode cX8_setText 46 = .ok (.aload_n 2, 1) := by decide +kernel
theorem dX8_setText_47 : decode cX8_setText 47 = .ok (.getfield 76, 3) := by decide +kernel
theorem dX8_setText_50 : decode cX8_setText 50 = .ok (.iload 5, 2) := by decide +kernel
theorem dX8_setText_52 : decode cX8_setText 52 = .ok (.baload, 1) := by decide +kernel
theorem dX8_setText_53 : decode cX8_setText 53 = .ok (.invokevirtual 79, 3) := by decide +kernel
theorem dX8_setText_56 : decode cX8_setText 56 = .ok (.iinc 5 1, 3) := by decide +kernel
theorem dX8_setText_59 : decode cX8_setText 59 = .ok (.goto (-33), 3) := by decide +kernel
theorem dX8_setText_62 : decode cX8_setText 62 = .ok (.aload_n 0, 1) := by decide +kernel
theorem dX8_setText_63 : decode cX8_setText 63 = .ok (.iload_n 1, 1) := by decide +kernel
theorem dX8_setText_64 : decode cX8_setText 64 = .ok (.iload_n 3, 1) := by decide +kernel
theorem dX8_setText_65 : decode cX8_setText 65 = .ok (.invokevirtual 83, 3) := by decide +kernel
theorem dX8_setText_68 : decode cX8_setText 68 = .ok (.return_, 1) := by decide +kernel
set_option maxRecDepth 100000 in
set_option maxHeartbeats 1000000 in
theorem l_X8_setText_26 {p : Program} {l : Launch} {e : Env} {s : State} {m : MethodId} {args : Array Value} {below : List Frame} {meth : Method} {c : Code} {D : va_G} {aC : Nat → ClassId} {b0 fu : Nat} {σ0 τ : tM} {v : Unit}  (C : tCx p l s m args meth c yX8_setText.cls cX8_setText 6 none D aC b0 σ0) (htab : ∀ x ∈ c.exceptionTable.toList, False) (hin : meth.name = yX8_setText.name)  : ∀ (n : Nat) (x0 : Nat) (x1 : Int32) (x2 : Nat) (x3 : Int32) (x4 : Int32) (x5 : Int32) (σ : tM), L_X8_setText_26 b0 fu  n x0 x1 x2 x3 x4 x5 σ = some (v, τ) → tX p l e s m args below meth c 6 4 92 D aC b0 σ0 (.inl none) τ 26 [(0, .ref (x0)), (1, .int (x1)), (2, .ref (x2)), (3, .int (x3)), (4, .int (x4)), (5, .int (x5))] [] σ := by
  intro n
  induction n with
  | zero => intro x0 x1 x2 x3 x4 x5 σ hm; unfold L_X8_setText_26 at hm; cases hm
  | succ n ih =>
    intro x0 x1 x2 x3 x4 x5 σ hm
    unfold L_X8_setText_26 at hm
    obtain ⟨rc26, hrc⟩ : ∃ z, z = L_X8_setText_26 b0 fu  n := ⟨_, rfl⟩
    replace hm := ltb_e hm hrc
    rw [← hrc] at ih
    have hrc26 := ih
    clear ih hrc
    refine zx_iload C dX8_setText_26 5 rfl ?_
    refine zx_iload_n C dX8_setText_28 3 rfl ?_
    refine zx_icmp_ge C 62 dX8_setText_29 (by decide) (fun c5 => ?_) (fun c5 => ?_)
    · replace hm := ip_e hm c5
      refine zx_aload_n C dX8_setText_62 0 rfl ?_
      refine zx_iload_n C dX8_setText_63 1 rfl ?_
      refine zx_iload_n C dX8_setText_64 3 rfl ?_
      obtain ⟨k6, i7, hm⟩ := ckO_e hm
      obtain ⟨v8, ρ9, h10, hm⟩ := cll_e hm
      refine zx_callV (σ := σ) C [.int (x1), .int (x3)] tC_8 k6 i7 Y_X8_setSize W_4_186 W_4_188 Wp_29 (c_X8_setSize h10) (by decide) (by decide) rfl (Nat.le_of_ble_eq_true rfl) dX8_setText_65 rfl ?_
      obtain ⟨rfl, rfl⟩ := ret_e hm
      exact zx_vret C rfl rfl rfl dX8_setText_68
    · replace hm := in_e hm c5
      refine zx_aload_n C dX8_setText_32 0 rfl ?_
      obtain ⟨k11, i12, hm⟩ := ckO_e hm
      obtain ⟨a13, h14, hm⟩ := osm_e hm
      refine zx_get (j := 0) C tC_8 k11 i12 ⟨by decide, Or.inl W_1_163⟩ dX8_setText_33 (.ref a13) (rf_s h14) ?_
      refine zx_iconst (v := 2) C dX8_setText_36 (by decide) ?_
      refine zx_iload_n C dX8_setText_37 1 rfl ?_
      refine zx_iconst (v := 2) C dX8_setText_38 (by decide) ?_
      refine zx_idiv C dX8_setText_39 (by decide) ?_
      refine zx_iadd C dX8_setText_40 ?_
      refine zx_iload C dX8_setText_41 4 rfl ?_
      refine zx_iload C dX8_setText_43 5 rfl ?_
      refine zx_iadd C dX8_setText_45 ?_
      refine zx_aload_n C dX8_setText_46 2 rfl ?_
      obtain ⟨k15, i16, hm⟩ := ckO_e hm
      obtain ⟨a17, h18, hm⟩ := osm_e hm
      refine zx_get (j := 0) C tC_3 k15 i16 ⟨by decide, Or.inr ⟨_, W_2_58⟩⟩ dX8_setText_47 (.ref a17) (rf_s h18) ?_
      refine zx_iload C dX8_setText_50 5 rfl ?_
      obtain ⟨n21, k19, i20, hm⟩ := ckR_e hm
      obtain ⟨h22, hm⟩ := ckI_e hm
      refine zx_bald C k19 i20 h22 dX8_setText_52 ?_
      obtain ⟨k23, i24, hm⟩ := ckO_e hm
      obtain ⟨v25, ρ26, h27, hm⟩ := cll_e hm
      refine zx_callV (σ := σ) C [.int ((2) + ((x1) / (2))), .int ((x4) + (x5)), .int (tI (σ) (a17) ((x5).toNatClampNeg))] tC_5 k23 i24 Y_X5_setOctet W_4_180 W_4_181 W_4_182 (c_X5_setOctet h27) (by decide) (by decide) rfl (Nat.le_of_ble_eq_true rfl) dX8_setText_53 rfl ?_
      obtain ⟨y28, hy28⟩ : ∃ z : Int32, z = (x5) + Int32.ofInt 1 := ⟨_, rfl⟩
      replace hm := ltb_e hm hy28
      refine zx_iinc C [(5, .int (y28)), (0, .ref (x0)), (1, .int (x1)), (2, .ref (x2)), (3, .int (x3)), (4, .int (x4))] dX8_setText_56 5 rfl hy28.symm (by decide) rfl ?_
      refine zx_goto C 26 dX8_setText_59 (by decide) ?_
      exact zx_lv [1, 2, 3, 4, 5, 0] [(0, .ref (x0)), (1, .int (x1)), (2, .ref (x2)), (3, .int (x3)), (4, .int (x4)), (5, .int (y28))] rfl (hrc26 _ _ _ _ _ _ _ hm)
set_option maxRecDepth 100000 in
set_option maxHeartbeats 1000000 in
theorem c_X8_setText {l : Launch} {D : va_G} {aC : Nat → ClassId} {b0 fu : Nat} {a0 : Nat} {p0 : Int32} {p1 : Nat} {σ τ : tM} {v : Unit} (hm : m_X8_setText b0 fu a0 p0 p1 σ = some (v, τ)) : tMt l D aC b0 yX8_setText (Cond.code yX8_setText cX8_setText 6 none) 4 92 [.ref (a0), .int (p0), .ref (p1)] σ (.inl none) τ := by
  unfold m_X8_setText at hm
  obtain ⟨hg, hm⟩ := grw_e hm
  refine tMt_of (n := 0) rfl (Nat.le_of_ble_eq_true rfl) hg ?_
  intro p e s m below meth c C htab hin
  refine zx_lv [0, 1, 2] [(0, .ref (a0)), (1, .int (p0)), (2, .ref (p1))] rfl ?_
  refine zx_aload_n C dX8_setText_0 2 rfl ?_
  obtain ⟨k1, i2, hm⟩ := ckO_e hm
  refine zx_get (j := 1) C tC_3 k1 i2 ⟨by decide, Or.inr ⟨_, W_2_62⟩⟩ dX8_setText_1 (.int (tI (σ) (p1) 1)) rfl ?_
  refine zx_bipush (v := 80) C dX8_setText_4 (by decide) ?_
  refine zx_min C W_4_179 W_2_106 W_1_10 W_2_107 (by decide) (by decide) (Nat.le_of_ble_eq_true rfl) dX8_setText_6 ?_
  refine zx_topi (fun y3 hy3 => ?_)
  replace hm := ltb_e hm hy3
  refine zx_istore_n C [(3, .int (y3)), (0, .ref (a0)), (1, .int (p0)), (2, .ref (p1))] dX8_setText_9 rfl (by decide) rfl ?_
  refine zx_iload_n C dX8_setText_10 2 rfl ?_
  refine zx_iconst (v := 1) C dX8_setText_11 (by decide) ?_
  refine zx_iand C dX8_setText_12 ?_
  refine zx_bipush (v := 16) C dX8_setText_13 (by decide) ?_
  refine zx_imul C dX8_setText_15 ?_
  refine zx_iconst (v := 1) C dX8_setText_16 (by decide) ?_
  refine zx_iadd C dX8_setText_17 ?_
  refine zx_bipush (v := 8) C dX8_setText_18 (by decide) ?_
  refine zx_imul C dX8_setText_20 ?_
  refine zx_topi (fun y4 hy4 => ?_)
  replace hm := ltb_e hm hy4
  refine zx_istore C [(4, .int (y4)), (3, .int (y3)), (0, .ref (a0)), (1, .int (p0)), (2, .ref (p1))] dX8_setText_21 (by decide) rfl ?_
  refine zx_iconst (v := 0) C dX8_setText_23 (by decide) ?_
  refine zx_istore C [(5, .int (0)), (4, .int (y4)), (3, .int (y3)), (0, .ref (a0)), (1, .int (p0)), (2, .ref (p1))] dX8_setText_24 (by decide) rfl ?_
  exact zx_lv [3, 4, 5, 2, 1, 0] [(0, .ref (a0)), (1, .int (p0)), (2, .ref (p1)), (3, .int (y3)), (4, .int (y4)), (5, .int (0))] rfl (l_X8_setText_26 C htab hin  _ _ _ _ _ _ _ _ hm)
abbrev cX8_textOctet : ByteArray := prog_10_method_16_code
def yX8_textOctet : MethodName := ⟨"SyncTree$Tree", "textOctet", "(II)I"⟩
theorem Y_X8_textOctet : tY yX8_textOctet cX8_textOctet 3 (some .int) 2 := ⟨W_4_139, W_1_4, ⟨by decide +kernel, by decide +kernel⟩, by decide +kernel⟩
theorem dX8_textOctet_0 : decode cX8_textOctet 0 = .ok (.aload_n 0, 1) := by decide +kernel
theorem dX8_textOctet_1 : decode cX8_textOctet 1 = .ok (.getfield 15, 3) := by decide +kernel
theorem dX8_textOctet_4 : decode cX8_textOctet 4 = .ok (.iconst 2, 1) := by decide +kernel
theorem dX8_textOctet_5 : decode cX8_textOctet 5 = .ok (.iload_n 1, 1) := by decide +kernel
theorem dX8_textOctet_6 : decode cX8_textOctet 6 = .ok (.iconst 2, 1) := by decide +kernel
theorem dX8_textOctet_7 : decode cX8_textOctet 7 = .ok (.idiv, 1) := by decide +kernel
theorem dX8_textOctet_8 : decode cX8_textOctet 8 = .ok (.iadd, 1) := by decide +kernel
theorem dX8_textOctet_9 : decode cX8_textOctet 9 = .ok (.iload_n 1, 1) := by decide +kernel
theorem dX8_textOctet_10 : decode cX8_textOctet 10 = .ok (.iconst 1, 1) := by decide +kernel
theorem dX8_textOctet_11 : decode cX8_textOctet 11 = .ok (.iand, 1) := by decide +kernel
theorem dX8_textOctet_12 : decode cX8_textOctet 12 = .ok (.bipush 16, 2) := by decide +kernel
theorem dX8_textOctet_14 : decode cX8_textOctet 14 = .ok (.imul, 1) := by decide +kernel
theorem dX8_textOctet_15 : decode cX8_textOctet 15 = .ok (.iconst 1, 1) := by decide +kernel
theorem dX8_textOctet_16 : decode cX8_textOctet 16 = .ok (.iadd, 1) := by decide +kernel
theorem dX8_textOctet_17 : decode cX8_textOctet 17 = .ok (.bipush 8, 2) := by decide +kernel
theorem dX8_textOctet_19 : decode cX8_textOctet 19 = .ok (.imul, 1) := by decide +kernel
theorem dX8_textOctet_20 : decode cX8_textOctet 20 = .ok (.iload_n 2, 1) := by decide +kernel
theorem dX8_textOctet_21 : decode cX8_textOctet 21 = .ok (.iadd, 1) := by decide +kernel
theorem dX8_textOctet_22 : decode cX8_textOctet 22 = .ok (.invokevirtual 86, 3) := by decide +kernel
theorem dX8_textOctet_25 : decode cX8_textOctet 25 = .ok (.ireturn, 1) := by decide +kernel
set_option maxRecDepth 100000 in
set_option maxHeartbeats 1000000 in
theorem c_X8_textOctet {l : Launch} {D : va_G} {aC : Nat → ClassId} {b0 fu : Nat} {a0 : Nat} {p0 : Int32} {p1 : Int32} {σ τ : tM} {v : Int32} (hm : m_X8_textOctet b0 fu a0 p0 p1 σ = some (v, τ)) : tMt l D aC b0 yX8_textOctet (Cond.code yX8_textOctet cX8_textOctet 3 (some .int)) 1 22 [.ref (a0), .int (p0), .int (p1)] σ (.inl (some (.int v))) τ := by
  unfold m_X8_textOctet at hm
  obtain ⟨hg, hm⟩ := grw_e hm
  refine tMt_of (n := 0) rfl (Nat.le_of_ble_eq_true rfl) hg ?_
  intro p e s m below meth c C htab hin
  refine zx_lv [0, 1, 2] [(0, .ref (a0)), (1, .int (p0)), (2, .int (p1))] rfl ?_
  refine zx_aload_n C dX8_textOctet_0 0 rfl ?_
  obtain ⟨k1, i2, hm⟩ := ckO_e hm
  obtain ⟨a3, h4, hm⟩ := osm_e hm
  refine zx_get (j := 0) C tC_8 k1 i2 ⟨by decide, Or.inl W_1_163⟩ dX8_textOctet_1 (.ref a3) (rf_s h4) ?_
  refine zx_iconst (v := 2) C dX8_textOctet_4 (by decide) ?_
  refine zx_iload_n C dX8_textOctet_5 1 rfl ?_
  refine zx_iconst (v := 2) C dX8_textOctet_6 (by decide) ?_
  refine zx_idiv C dX8_textOctet_7 (by decide) ?_
  refine zx_iadd C dX8_textOctet_8 ?_
  refine zx_iload_n C dX8_textOctet_9 1 rfl ?_
  refine zx_iconst (v := 1) C dX8_textOctet_10 (by decide) ?_
  refine zx_iand C dX8_textOctet_11 ?_
  refine zx_bipush (v := 16) C dX8_textOctet_12 (by decide) ?_
  refine zx_imul C dX8_textOctet_14 ?_
  refine zx_iconst (v := 1) C dX8_textOctet_15 (by decide) ?_
  refine zx_iadd C dX8_textOctet_16 ?_
  refine zx_bipush (v := 8) C dX8_textOctet_17 (by decide) ?_
  refine zx_imul C dX8_textOctet_19 ?_
  refine zx_iload_n C dX8_textOctet_20 2 rfl ?_
  refine zx_iadd C dX8_textOctet_21 ?_
  obtain ⟨k5, i6, hm⟩ := ckO_e hm
  obtain ⟨v7, ρ8, h9, hm⟩ := cll_e hm
  refine zx_callV (σ := σ) C [.int ((2) + ((p0) / (2))), .int ((((((p0) &&& (1)) * (16)) + (1)) * (8)) + (p1))] tC_5 k5 i6 Y_X5_octet W_4_120 W_4_121 W_4_122 (c_X5_octet h9) (by decide) (by decide) rfl (Nat.le_of_ble_eq_true rfl) dX8_textOctet_22 rfl ?_
  obtain ⟨rfl, rfl⟩ := ret_e hm
  exact zx_iret C rfl rfl rfl dX8_textOctet_25
abbrev cX8_lowestUnused : ByteArray := prog_10_method_17_code
def yX8_lowestUnused : MethodName := ⟨"SyncTree$Tree", "lowestUnused", "()I"⟩
theorem Y_X8_lowestUnused : tY yX8_lowestUnused cX8_lowestUnused 2 (some .int) 0 := ⟨W_4_157, W_1_4, ⟨by decide +kernel, by decide +kernel⟩, by decide +kernel⟩
theorem dX8_lowestUnused_0 : decode cX8_lowestUnused 0 = .ok (.iconst 0, 1) := by decide +kernel
theorem dX8_lowestUnused_1 : decode cX8_lowestUnused 1 = .ok (.istore_n 1, 1) := by decide +kernel
theorem dX8_lowestUnused_2 : decode cX8_lowestUnused 2 = .ok (.iload_n 1, 1) := by decide +kernel
theorem dX8_lowestUnused_3 : decode cX8_lowestUnused 3 = .ok (.bipush 64, 2) := by decide +kernel
theorem dX8_lowestUnused_5 : decode cX8_lowestUnused 5 = .ok (.if_icmp .ge 19, 3) := by decide +kernel
theorem dX8_lowestUnused_8 : decode cX8_lowestUnused 8 = .ok (.aload_n 0, 1) := by decide +kernel
theorem dX8_lowestUnused_9 : decode cX8_lowestUnused 9 = .ok (.iload_n 1, 1) := by decide +kernel
theorem dX8_lowestUnused_10 : decode cX8_lowestUnused 10 = .ok (.invokevirtual 40, 3) := by decide +kernel
theorem dX8_lowestUnused_13 : decode cX8_lowestUnused 13 = .ok (.ifCond .ne 5, 3) := by decide +kernel
theorem dX8_lowestUnused_16 : decode cX8_lowestUnused 16 = .ok (.iload_n 1, 1) := by decide +kernel
theorem dX8_lowestUnused_17 : decode cX8_lowestUnused 17 = .ok (.ireturn, 1) := by decide +kernel
theorem dX8_lowestUnused_18 : decode cX8_lowestUnused 18 = .ok (.iinc 1 1, 3) := by decide +kernel
theorem dX8_lowestUnused_21 : decode cX8_lowestUnused 21 = .ok (.goto (-19), 3) := by decide +kernel
theorem dX8_lowestUnused_24 : decode cX8_lowestUnused 24 = .ok (.iconst (-1), 1) := by decide +kernel
theorem dX8_lowestUnused_25 : decode cX8_lowestUnused 25 = .ok (.ireturn, 1) := by decide +kernel
set_option maxRecDepth 100000 in
set_option maxHeartbeats 1000000 in
theorem l_X8_lowestUnused_2 {p : Program} {l : Launch} {e : Env} {s : State} {m : MethodId} {args : Array Value} {below : List Frame} {meth : Method} {c : Code} {D : va_G} {aC : Nat → ClassId} {b0 fu : Nat} {σ0 τ : tM} {v : Int32}  (C : tCx p l s m args meth c yX8_lowestUnused.cls cX8_lowestUnused 2 (some .int) D aC b0 σ0) (htab : ∀ x ∈ c.exceptionTable.toList, False) (hin : meth.name = yX8_lowestUnused.name)  : ∀ (n : Nat) (x0 : Nat) (x1 : Int32) (σ : tM), L_X8_lowestUnused_2 b0 fu  n x0 x1 σ = some (v, τ) → tX p l e s m args below meth c 2 2 43 D aC b0 σ0 (.inl (some (.int v))) τ 2 [(0, .ref (x0)), (1, .int (x1))] [] σ := by
  intro n
  induction n with
  | zero => intro x0 x1 σ hm; unfold L_X8_lowestUnused_2 at hm; cases hm
  | succ n ih =>
    intro x0 x1 σ hm
    unfold L_X8_lowestUnused_2 at hm
    obtain ⟨rc2, hrc⟩ : ∃ z, z = L_X8_lowestUnused_2 b0 fu  n := ⟨_, rfl⟩
    replace hm := ltb_e hm hrc
    rw [← hrc] at ih
    have hrc2 := ih
    clear ih hrc
    refine zx_iload_n C dX8_lowestUnused_2 1 rfl ?_
    refine zx_bipush (v := 64) C dX8_lowestUnused_3 (by decide) ?_
    refine zx_icmp_ge C 24 dX8_lowestUnused_5 (by decide) (fun c1 => ?_) (fun c1 => ?_)
    · replace hm := ip_e hm c1
      refine zx_iconst (v := (-1)) C dX8_lowestUnused_24 (by decide) ?_
      obtain ⟨rfl, rfl⟩ := ret_e hm
      exact zx_iret C rfl rfl rfl dX8_lowestUnused_25
    · replace hm := in_e hm c1
      refine zx_aload_n C dX8_lowestUnused_8 0 rfl ?_
      refine zx_iload_n C dX8_lowestUnused_9 1 rfl ?_
      obtain ⟨k2, i3, hm⟩ := ckO_e hm
      obtain ⟨v4, ρ5, h6, hm⟩ := cll_e hm
      refine zx_callV (σ := σ) C [.int (x1)] tC_8 k2 i3 Y_X8_kind W_3_79 W_3_80 W_3_81 (c_X8_kind h6) (by decide) (by decide) rfl (Nat.le_of_ble_eq_true rfl) dX8_lowestUnused_10 rfl ?_
      refine zx_if_ne C 18 dX8_lowestUnused_13 (by decide) (fun c7 => ?_) (fun c7 => ?_)
      · replace hm := in_e hm c7
        obtain ⟨y8, hy8⟩ : ∃ z : Int32, z = (x1) + Int32.ofInt 1 := ⟨_, rfl⟩
        replace hm := ltb_e hm hy8
        refine zx_iinc C [(1, .int (y8)), (0, .ref (x0))] dX8_lowestUnused_18 1 rfl hy8.symm (by decide) rfl ?_
        refine zx_goto C 2 dX8_lowestUnused_21 (by decide) ?_
        exact zx_lv [1, 0] [(0, .ref (x0)), (1, .int (y8))] rfl (hrc2 _ _ _ hm)
      · replace hm := ip_e hm c7
        refine zx_iload_n C dX8_lowestUnused_16 1 rfl ?_
        obtain ⟨rfl, rfl⟩ := ret_e hm
        exact zx_iret C rfl rfl rfl dX8_lowestUnused_17
set_option maxRecDepth 100000 in
set_option maxHeartbeats 1000000 in
theorem c_X8_lowestUnused {l : Launch} {D : va_G} {aC : Nat → ClassId} {b0 fu : Nat} {a0 : Nat} {σ τ : tM} {v : Int32} (hm : m_X8_lowestUnused b0 fu a0 σ = some (v, τ)) : tMt l D aC b0 yX8_lowestUnused (Cond.code yX8_lowestUnused cX8_lowestUnused 2 (some .int)) 2 43 [.ref (a0)] σ (.inl (some (.int v))) τ := by
  unfold m_X8_lowestUnused at hm
  obtain ⟨hg, hm⟩ := grw_e hm
  refine tMt_of (n := 0) rfl (Nat.le_of_ble_eq_true rfl) hg ?_
  intro p e s m below meth c C htab hin
  refine zx_lv [0] [(0, .ref (a0))] rfl ?_
  refine zx_iconst (v := 0) C dX8_lowestUnused_0 (by decide) ?_
  refine zx_istore_n C [(1, .int (0)), (0, .ref (a0))] dX8_lowestUnused_1 rfl (by decide) rfl ?_
  exact zx_lv [1, 0] [(0, .ref (a0)), (1, .int (0))] rfl (l_X8_lowestUnused_2 C htab hin  _ _ _ _ hm)
abbrev cX8_countUnused : ByteArray := prog_10_method_18_code
def yX8_countUnused : MethodName := ⟨"SyncTree$Tree", "countUnused", "()I"⟩
theorem Y_X8_countUnused : tY yX8_countUnused cX8_countUnused 3 (some .int) 0 := ⟨W_3_78, W_1_4, ⟨by decide +kernel, by decide +kernel⟩, by decide +kernel⟩
theorem dX8_countUnused_0 : decode cX8_countUnused 0 = .ok (.iconst 0, 1) := by decide +kernel
theorem dX8_countUnused_1 : decode cX8_countUnused 1 = .ok (.istore_n 1, 1) := by decide +kernel
theorem dX8_countUnused_2 : decode cX8_countUnused 2 = .ok (.iconst 0, 1) := by decide +kernel
theorem dX8_countUnused_3 : decode cX8_countUnused 3 = .ok (.istore_n 2, 1) := by decide +kernel
theorem dX8_countUnused_4 : decode cX8_countUnused 4 = .ok (.iload_n 2, 1) := by decide +kernel
theorem dX8_countUnused_5 : decode cX8_countUnused 5 = .ok (.bipush 64, 2) := by decide +kernel
theorem dX8_countUnused_7 : decode cX8_countUnused 7 = .ok (.if_icmp .ge 25, 3) := by decide +kernel
theorem dX8_countUnused_10 : decode cX8_countUnused 10 = .ok (.iload_n 1, 1) := by decide +kernel
theorem dX8_countUnused_11 : decode cX8_countUnused 11 = .ok (.aload_n 0, 1) := by decide +kernel
theorem dX8_countUnused_12 : decode cX8_countUnused 12 = .ok (.iload_n 2, 1) := by decide +kernel
theorem dX8_countUnused_13 : decode cX8_countUnused 13 = .ok (.invokevirtual 40, 3) := by decide +kernel
theorem dX8_countUnused_16 : decode cX8_countUnused 16 = .ok (.ifCond .ne 7, 3) := by decide +kernel
theorem dX8_countUnused_19 : decode cX8_countUnused 19 = .ok (.iconst 1, 1) := by decide +kernel
theorem dX8_countUnused_20 : decode cX8_countUnused 20 = .ok (.goto 4, 3) := by decide +kernel
theorem dX8_countUnused_23 : decode cX8_countUnused 23 = .ok (.iconst 0, 1) := by decide +kernel
theorem dX8_countUnused_24 : decode cX8_countUnused 24 = .ok (.iadd, 1) := by decide +kernel
theorem dX8_countUnused_25 : decode cX8_countUnused 25 = .ok (.istore_n 1, 1) := by decide +kernel
theorem dX8_countUnused_26 : decode cX8_countUnused 26 = .ok (.iinc 2 1, 3) := by decide +kernel
theorem dX8_countUnused_29 : decode cX8_countUnused 29 = .ok (.goto (-25), 3) := by decide +kernel
theorem dX8_countUnused_32 : decode cX8_countUnused 32 = .ok (.iload_n 1, 1) := by decide +kernel
theorem dX8_countUnused_33 : decode cX8_countUnused 33 = .ok (.ireturn, 1) := by decide +kernel
set_option maxRecDepth 100000 in
set_option maxHeartbeats 1000000 in
theorem j_X8_countUnused_24 {p : Program} {l : Launch} {e : Env} {s : State} {m : MethodId} {args : Array Value} {below : List Frame} {meth : Method} {c : Code} {D : va_G} {aC : Nat → ClassId} {b0 fu : Nat} {σ0 τ : tM} {v : Int32} {rc4 : Nat → Int32 → Int32 → tM → Option ((Int32) × tM)} (C : tCx p l s m args meth c yX8_countUnused.cls cX8_countUnused 3 (some .int) D aC b0 σ0) (htab : ∀ x ∈ c.exceptionTable.toList, False) (hin : meth.name = yX8_countUnused.name) (hrc4 : ∀ (x0 : Nat) (x1 : Int32) (x2 : Int32) (ρ : tM), rc4 x0 x1 x2 ρ = some (v, τ) → tX p l e s m args below meth c 3 2 43 D aC b0 σ0 (.inl (some (.int v))) τ 4 [(0, .ref (x0)), (1, .int (x1)), (2, .int (x2))] [] ρ) {x0 : Nat} {x2 : Int32} {s0 : Int32} {s1 : Int32} {σ : tM} (hm : J_X8_countUnused_24 b0 fu rc4 x0 x2 s0 s1 σ = some (v, τ)) : tX p l e s m args below meth c 3 2 43 D aC b0 σ0 (.inl (some (.int v))) τ 24 [(0, .ref (x0)), (2, .int (x2))] [.int (s1), .int (s0)] σ := by
  unfold J_X8_countUnused_24 at hm
  refine zx_iadd C dX8_countUnused_24 ?_
  refine zx_topi (fun y8 hy8 => ?_)
  replace hm := ltb_e hm hy8
  refine zx_istore_n C [(1, .int (y8)), (0, .ref (x0)), (2, .int (x2))] dX8_countUnused_25 rfl (by decide) rfl ?_
  obtain ⟨y9, hy9⟩ : ∃ z : Int32, z = (x2) + Int32.ofInt 1 := ⟨_, rfl⟩
  replace hm := ltb_e hm hy9
  refine zx_iinc C [(2, .int (y9)), (1, .int (y8)), (0, .ref (x0))] dX8_countUnused_26 2 rfl hy9.symm (by decide) rfl ?_
  refine zx_goto C 4 dX8_countUnused_29 (by decide) ?_
  exact zx_lv [2, 1, 0] [(0, .ref (x0)), (1, .int (y8)), (2, .int (y9))] rfl (hrc4 _ _ _ _ hm)
set_option maxRecDepth 100000 in
set_option maxHeartbeats 1000000 in
theorem l_X8_countUnused_4 {p : Program} {l : Launch} {e : Env} {s : State} {m : MethodId} {args : Array Value} {below : List Frame} {meth : Method} {c : Code} {D : va_G} {aC : Nat → ClassId} {b0 fu : Nat} {σ0 τ : tM} {v : Int32}  (C : tCx p l s m args meth c yX8_countUnused.cls cX8_countUnused 3 (some .int) D aC b0 σ0) (htab : ∀ x ∈ c.exceptionTable.toList, False) (hin : meth.name = yX8_countUnused.name)  : ∀ (n : Nat) (x0 : Nat) (x1 : Int32) (x2 : Int32) (σ : tM), L_X8_countUnused_4 b0 fu  n x0 x1 x2 σ = some (v, τ) → tX p l e s m args below meth c 3 2 43 D aC b0 σ0 (.inl (some (.int v))) τ 4 [(0, .ref (x0)), (1, .int (x1)), (2, .int (x2))] [] σ := by
  intro n
  induction n with
  | zero => intro x0 x1 x2 σ hm; unfold L_X8_countUnused_4 at hm; cases hm
  | succ n ih =>
    intro x0 x1 x2 σ hm
    unfold L_X8_countUnused_4 at hm
    obtain ⟨rc4, hrc⟩ : ∃ z, z = L_X8_countUnused_4 b0 fu  n := ⟨_, rfl⟩
    replace hm := ltb_e hm hrc
    rw [← hrc] at ih
    have hrc4 := ih
    clear ih hrc
    refine zx_iload_n C dX8_countUnused_4 2 rfl ?_
    refine zx_bipush (v := 64) C dX8_countUnused_5 (by decide) ?_
    refine zx_icmp_ge C 32 dX8_countUnused_7 (by decide) (fun c1 => ?_) (fun c1 => ?_)
    · replace hm := ip_e hm c1
      refine zx_iload_n C dX8_countUnused_32 1 rfl ?_
      obtain ⟨rfl, rfl⟩ := ret_e hm
      exact zx_iret C rfl rfl rfl dX8_countUnused_33
    · replace hm := in_e hm c1
      refine zx_iload_n C dX8_countUnused_10 1 rfl ?_
      refine zx_aload_n C dX8_countUnused_11 0 rfl ?_
      refine zx_iload_n C dX8_countUnused_12 2 rfl ?_
      obtain ⟨k2, i3, hm⟩ := ckO_e hm
      obtain ⟨v4, ρ5, h6, hm⟩ := cll_e hm
      refine zx_callV (σ := σ) C [.int (x2)] tC_8 k2 i3 Y_X8_kind W_3_79 W_3_80 W_3_81 (c_X8_kind h6) (by decide) (by decide) rfl (Nat.le_of_ble_eq_true rfl) dX8_countUnused_13 rfl ?_
      refine zx_if_ne C 23 dX8_countUnused_16 (by decide) (fun c7 => ?_) (fun c7 => ?_)
      · replace hm := in_e hm c7
        refine zx_iconst (v := 0) C dX8_countUnused_23 (by decide) ?_
        exact zx_lv [0, 2] [(0, .ref (x0)), (2, .int (x2))] rfl (j_X8_countUnused_24 C htab hin hrc4   hm)
      · replace hm := ip_e hm c7
        refine zx_iconst (v := 1) C dX8_countUnused_19 (by decide) ?_
        refine zx_goto C 24 dX8_countUnused_20 (by decide) ?_
        exact zx_lv [0, 2] [(0, .ref (x0)), (2, .int (x2))] rfl (j_X8_countUnused_24 C htab hin hrc4   hm)
set_option maxRecDepth 100000 in
set_option maxHeartbeats 1000000 in
theorem c_X8_countUnused {l : Launch} {D : va_G} {aC : Nat → ClassId} {b0 fu : Nat} {a0 : Nat} {σ τ : tM} {v : Int32} (hm : m_X8_countUnused b0 fu a0 σ = some (v, τ)) : tMt l D aC b0 yX8_countUnused (Cond.code yX8_countUnused cX8_countUnused 3 (some .int)) 2 43 [.ref (a0)] σ (.inl (some (.int v))) τ := by
  unfold m_X8_countUnused at hm
  obtain ⟨hg, hm⟩ := grw_e hm
  refine tMt_of (n := 0) rfl (Nat.le_of_ble_eq_true rfl) hg ?_
  intro p e s m below meth c C htab hin
  refine zx_lv [0] [(0, .ref (a0))] rfl ?_
  refine zx_iconst (v := 0) C dX8_countUnused_0 (by decide) ?_
  refine zx_istore_n C [(1, .int (0)), (0, .ref (a0))] dX8_countUnused_1 rfl (by decide) rfl ?_
  refine zx_iconst (v := 0) C dX8_countUnused_2 (by decide) ?_
  refine zx_istore_n C [(2, .int (0)), (1, .int (0)), (0, .ref (a0))] dX8_countUnused_3 rfl (by decide) rfl ?_
  exact zx_lv [2, 1, 0] [(0, .ref (a0)), (1, .int (0)), (2, .int (0))] rfl (l_X8_countUnused_4 C htab hin  _ _ _ _ _ hm)
