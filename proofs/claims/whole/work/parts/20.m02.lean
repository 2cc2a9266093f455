abbrev cX3_isDots : ByteArray := prog_5_method_5_code
def yX3_isDots : MethodName := ⟨"SyncTree$PathText", "isDots", "([BII)Z"⟩
theorem Y_X3_isDots : tY yX3_isDots cX3_isDots 3 (some .boolean) 3 := ⟨W_4_95, W_1_9, ⟨by decide +kernel, by decide +kernel⟩, by decide +kernel⟩
theorem dX3_isDots_0 : decode cX3_isDots 0 = .ok (.iload_n 2, 1) := by decide +kernel
theorem dX3_isDots_1 : decode cX3_isDots 1 = .ok (.iconst 1, 1) := by decide +kernel
theorem dX3_isDots_2 : decode cX3_isDots 2 = .ok (.if_icmp .lt 20, 3) := by decide +kernel
theorem dX3_isDots_5 : decode cX3_isDots 5 = .ok (.iload_n 2, 1) := by decide +kernel
theorem dX3_isDots_6 : decode cX3_isDots 6 = .ok (.iconst 2, 1) := by decide +kernel
theorem dX3_isDots_7 : decode cX3_isDots 7 = .ok (.if_icmp .gt 15, 3) := by decide +kernel
theorem dX3_isDots_10 : decode cX3_isDots 10 = .ok (.iload_n 1, 1) := by decide +kernel
theorem dX3_isDots_11 : decode cX3_isDots 11 = .ok (.ifCond .lt 11, 3) := by decide +kernel
theorem dX3_isDots_14 : decode cX3_isDots 14 = .ok (.iload_n 1, 1) := by decide +kernel
theorem dX3_isDots_15 : decode cX3_isDots 15 = .ok (.aload_n 0, 1) := by decide +kernel
theorem dX3_isDots_16 : decode cX3_isDots 16 = .ok (.arraylength, 1) := by decide +kernel
theorem dX3_isDots_17 : decode cX3_isDots 17 = .ok (.iload_n 2, 1) := by decide +kernel
theorem dX3_isDots_18 : decode cX3_isDots 18 = .ok (.isub, 1) := by decide +kernel
theorem dX3_isDots_19 : decode cX3_isDots 19 = .ok (.if_icmp .le 5, 3) := by decide +kernel
theorem dX3_isDots_22 : decode cX3_isDots 22 = .ok (.iconst 0, 1) := by decide +kernel
theorem dX3_isDots_23 : decode cX3_isDots 23 = .ok (.ireturn, 1) := by decide +kernel
theorem dX3_isDots_24 : decode cX3_isDots 24 = .ok (.aload_n 0, 1) := by decide +kernel
theorem dX3_isDots_25 : decode cX3_isDots 25 = .ok (.iload_n 1, 1) := by decide +kernel
theorem dX3_isDots_26 : decode cX3_isDots 26 = .ok (.baload, 1) := by decide +kernel
theorem dX3_isDots_27 : decode cX3_isDots 27 = .ok (.bipush 46, 2) := by decide +kernel
theorem dX3_isDots_29 : decode cX3_isDots 29 = .ok (.if_icmp .ne 19, 3) := by decide +kernel
theorem dX3_isDots_32 : decode cX3_isDots 32 = .ok (.aload_n 0, 1) := by decide +kernel
theorem dX3_isDots_33 : decode cX3_isDots 33 = .ok (.iload_n 1, 1) := by decide +kernel
theorem dX3_isDots_34 : decode cX3_isDots 34 = .ok (.iload_n 2, 1) := by decide +kernel
theorem dX3_isDots_35 : decode cX3_isDots 35 = .ok (.iadd, 1) := by decide +kernel
theorem dX3_isDots_36 : decode cX3_isDots 36 = .ok (.iconst 1, 1) := by decide +kernel
theorem dX3_isDots_37 : decode cX3_isDots 37 = .ok (.isub, 1) := by decide +kernel
theorem dX3_isDots_38 : decode cX3_isDots 38 = .ok (.baload, 1) := by decide +kernel
theorem dX3_isDots_39 : decode cX3_isDots 39 = .ok (.bipush 46, 2) := by decide +kernel
theorem dX3_isDots_41 : decode cX3_isDots 41 = .ok (.if_icmp .ne 7, 3) := by decide +kernel
theorem dX3_isDots_44 : decode cX3_isDots 44 = .ok (.iconst 1, 1) := by decide +kernel
theorem dX3_isDots_45 : decode cX3_isDots 45 = .ok (.goto 4, 3) := by decide +kernel
theorem dX3_isDots_48 : decode cX3_isDots 48 = .ok (.iconst 0, 1) := by decide +kernel
theorem dX3_isDots_49 : decode cX3_isDots 49 = .ok (.ireturn, 1) := by decide +kernel
def J_X3_isDots_22 (b0 fu : Nat)   (σ : tM) : Option ((Int32) × tM) := some (0, σ)
def J_X3_isDots_49 (b0 fu : Nat)  (s0 : Int32) (σ : tM) : Option ((Int32) × tM) := ckZ (s0) (some (s0, σ))
def J_X3_isDots_48 (b0 fu : Nat)   (σ : tM) : Option ((Int32) × tM) := J_X3_isDots_49 b0 fu   (0) (σ)
def m_X3_isDots (b0 fu : Nat) (p0 : Nat) (p1 : Int32) (p2 : Int32) (σ : tM) : Option ((Int32) × tM) := grw σ (if (p2) < (1) then J_X3_isDots_22 b0 fu    (σ) else if (2) < (p2) then J_X3_isDots_22 b0 fu    (σ) else if (p1) < (0) then J_X3_isDots_22 b0 fu    (σ) else ckR b0 (σ) (p0) 1 (fun n6 => if (p1) ≤ ((nI n6) - (p2)) then ckI (p1) (n6) (if (tI (σ) (p0) ((p1).toNatClampNeg)) = (46) then ckI (((p1) + (p2)) - (1)) (n6) (if (tI (σ) (p0) ((((p1) + (p2)) - (1)).toNatClampNeg)) = (46) then J_X3_isDots_49 b0 fu   (1) (σ) else J_X3_isDots_48 b0 fu    (σ)) else J_X3_isDots_48 b0 fu    (σ)) else J_X3_isDots_22 b0 fu    (σ)))
set_option maxRecDepth 100000 in
set_option maxHeartbeats 1000000 in
theorem j_X3_isDots_22 {p : Program} {l : Launch} {e : Env} {s : State} {m : MethodId} {args : Array Value} {below : List Frame} {meth : Method} {c : Code} {D : va_G} {aC : Nat → ClassId} {b0 fu : Nat} {σ0 τ : tM} {v : Int32}  (C : tCx p s m args meth c yX3_isDots.cls cX3_isDots 3 (some .boolean) D aC b0 σ0) (htab : ∀ x ∈ c.exceptionTable.toList, False) (hin : meth.name = yX3_isDots.name)   {σ : tM} (hm : J_X3_isDots_22 b0 fu   σ = some (v, τ)) : tX p l e s m args below meth c 3 0 0 D aC b0 σ0 (.inl (some (.int v))) τ 22 [] [] σ := by
  unfold J_X3_isDots_22 at hm
  refine zx_iconst (v := 0) C dX3_isDots_22 (by decide) ?_
  obtain ⟨rfl, rfl⟩ := ret_e hm
  exact zx_zret C rfl (by decide) rfl rfl dX3_isDots_23
set_option maxRecDepth 100000 in
set_option maxHeartbeats 1000000 in
theorem j_X3_isDots_49 {p : Program} {l : Launch} {e : Env} {s : State} {m : MethodId} {args : Array Value} {below : List Frame} {meth : Method} {c : Code} {D : va_G} {aC : Nat → ClassId} {b0 fu : Nat} {σ0 τ : tM} {v : Int32}  (C : tCx p s m args meth c yX3_isDots.cls cX3_isDots 3 (some .boolean) D aC b0 σ0) (htab : ∀ x ∈ c.exceptionTable.toList, False) (hin : meth.name = yX3_isDots.name)  {s0 : Int32} {σ : tM} (hm : J_X3_isDots_49 b0 fu  s0 σ = some (v, τ)) : tX p l e s m args below meth c 3 0 0 D aC b0 σ0 (.inl (some (.int v))) τ 49 [] [.int (s0)] σ := by
  unfold J_X3_isDots_49 at hm
  obtain ⟨h10, hm⟩ := ckZ_e hm
  obtain ⟨rfl, rfl⟩ := ret_e hm
  exact zx_zret C rfl h10 rfl rfl dX3_isDots_49
set_option maxRecDepth 100000 in
set_option maxHeartbeats 1000000 in
theorem j_X3_isDots_48 {p : Program} {l : Launch} {e : Env} {s : State} {m : MethodId} {args : Array Value} {below : List Frame} {meth : Method} {c : Code} {D : va_G} {aC : Nat → ClassId} {b0 fu : Nat} {σ0 τ : tM} {v : Int32}  (C : tCx p s m args meth c yX3_isDots.cls cX3_isDots 3 (some .boolean) D aC b0 σ0) (htab : ∀ x ∈ c.exceptionTable.toList, False) (hin : meth.name = yX3_isDots.name)   {σ : tM} (hm : J_X3_isDots_48 b0 fu   σ = some (v, τ)) : tX p l e s m args below meth c 3 0 0 D aC b0 σ0 (.inl (some (.int v))) τ 48 [] [] σ := by
  unfold J_X3_isDots_48 at hm
  refine zx_iconst (v := 0) C dX3_isDots_48 (by decide) ?_
  exact zx_lv [] [] rfl (j_X3_isDots_49 C htab hin    hm)
set_option maxRecDepth 100000 in
set_option maxHeartbeats 1000000 in
theorem c_X3_isDots {l : Launch} {D : va_G} {aC : Nat → ClassId} {b0 fu : Nat} {p0 : Nat} {p1 : Int32} {p2 : Int32} {σ τ : tM} {v : Int32} (hm : m_X3_isDots b0 fu p0 p1 p2 σ = some (v, τ)) : tMt l D aC b0 yX3_isDots (Cond.code yX3_isDots cX3_isDots 3 (some .boolean)) 0 0 [.ref (p0), .int (p1), .int (p2)] σ (.inl (some (.int v))) τ := by
  unfold m_X3_isDots at hm
  obtain ⟨hg, hm⟩ := grw_e hm
  refine tMt_of (n := 0) rfl (Nat.le_of_ble_eq_true rfl) hg ?_
  intro p e s m below meth c C htab hin
  refine zx_lv [0, 1, 2] [(0, .ref (p0)), (1, .int (p1)), (2, .int (p2))] rfl ?_
  refine zx_iload_n C dX3_isDots_0 2 rfl ?_
  refine zx_iconst (v := 1) C dX3_isDots_1 (by decide) ?_
  refine zx_icmp_lt C 22 dX3_isDots_2 (by decide) (fun c1 => ?_) (fun c1 => ?_)
  · replace hm := ip_e hm c1
    exact zx_lv [] [] rfl (j_X3_isDots_22 C htab hin    hm)
  · replace hm := in_e hm c1
    refine zx_iload_n C dX3_isDots_5 2 rfl ?_
    refine zx_iconst (v := 2) C dX3_isDots_6 (by decide) ?_
    refine zx_icmp_gt C 22 dX3_isDots_7 (by decide) (fun c2 => ?_) (fun c2 => ?_)
    · replace hm := ip_e hm c2
      exact zx_lv [] [] rfl (j_X3_isDots_22 C htab hin    hm)
    · replace hm := in_e hm c2
      refine zx_iload_n C dX3_isDots_10 1 rfl ?_
      refine zx_if_lt C 22 dX3_isDots_11 (by decide) (fun c3 => ?_) (fun c3 => ?_)
      · replace hm := ip_e hm c3
        exact zx_lv [] [] rfl (j_X3_isDots_22 C htab hin    hm)
      · replace hm := in_e hm c3
        refine zx_iload_n C dX3_isDots_14 1 rfl ?_
        refine zx_aload_n C dX3_isDots_15 0 rfl ?_
        obtain ⟨n6, k4, i5, hm⟩ := ckR_e hm
        refine zx_alen C k4 (by decide) i5 dX3_isDots_16 ?_
        refine zx_iload_n C dX3_isDots_17 2 rfl ?_
        refine zx_isub C dX3_isDots_18 ?_
        refine zx_icmp_le C 24 dX3_isDots_19 (by decide) (fun c7 => ?_) (fun c7 => ?_)
        · replace hm := ip_e hm c7
          refine zx_aload_n C dX3_isDots_24 0 rfl ?_
          refine zx_iload_n C dX3_isDots_25 1 rfl ?_
          obtain ⟨h8, hm⟩ := ckI_e hm
          refine zx_bald C k4 i5 h8 dX3_isDots_26 ?_
          refine zx_bipush (v := 46) C dX3_isDots_27 (by decide) ?_
          refine zx_icmp_ne C 48 dX3_isDots_29 (by decide) (fun c9 => ?_) (fun c9 => ?_)
          · replace hm := in_e hm c9
            exact zx_lv [] [] rfl (j_X3_isDots_48 C htab hin    hm)
          · replace hm := ip_e hm c9
            refine zx_aload_n C dX3_isDots_32 0 rfl ?_
            refine zx_iload_n C dX3_isDots_33 1 rfl ?_
            refine zx_iload_n C dX3_isDots_34 2 rfl ?_
            refine zx_iadd C dX3_isDots_35 ?_
            refine zx_iconst (v := 1) C dX3_isDots_36 (by decide) ?_
            refine zx_isub C dX3_isDots_37 ?_
            obtain ⟨h11, hm⟩ := ckI_e hm
            refine zx_bald C k4 i5 h11 dX3_isDots_38 ?_
            refine zx_bipush (v := 46) C dX3_isDots_39 (by decide) ?_
            refine zx_icmp_ne C 48 dX3_isDots_41 (by decide) (fun c12 => ?_) (fun c12 => ?_)
            · replace hm := in_e hm c12
              exact zx_lv [] [] rfl (j_X3_isDots_48 C htab hin    hm)
            · replace hm := ip_e hm c12
              refine zx_iconst (v := 1) C dX3_isDots_44 (by decide) ?_
              refine zx_goto C 49 dX3_isDots_45 (by decide) ?_
              exact zx_lv [] [] rfl (j_X3_isDots_49 C htab hin    hm)
        · replace hm := in_e hm c7
          exact zx_lv [] [] rfl (j_X3_isDots_22 C htab hin    hm)
abbrev cX4_init : ByteArray := prog_6_method_1_code
def yX4_init : MethodName := ⟨"SyncTree$Row", "<init>", "()V"⟩
theorem Y_X4_init : tY yX4_init cX4_init 1 none 0 := ⟨W_2_187, W_1_13, ⟨by decide +kernel, by decide +kernel⟩, by decide +kernel⟩
theorem dX4_init_0 : decode cX4_init 0 = .ok (.aload_n 0, 1) := by decide +kernel
theorem dX4_init_1 : decode cX4_init 1 = .ok (.invokespecial 3, 3) := by decide +kernel
theorem dX4_init_4 : decode cX4_init 4 = .ok (.aload_n 0, 1) := by decide +kernel
theorem dX4_init_5 : decode cX4_init 5 = .ok (.bipush 32, 2) := by decide +kernel
theorem dX4_init_7 : decode cX4_init 7 = .ok (.newarray .long, 2) := by decide +kernel
theorem dX4_init_9 : decode cX4_init 9 = .ok (.putfield 9, 3) := by decide +kernel
theorem dX4_init_12 : decode cX4_init 12 = .ok (.return_, 1) := by decide +kernel
def m_X4_init (b0 fu : Nat) (a0 : Nat) (σ : tM) : Option ((Unit) × tM) := grw σ (ltb (sN (σ) (b0 + tn (σ)) (.inr (3, ((32 : Int32)).toNatClampNeg)) (((32 : Int32)).toNatClampNeg)) (fun ρ1 => ckO b0 (ρ1) (a0) 4 (some ((), sA (ρ1) (a0) 0 (some (b0 + tn (σ)))))))
set_option maxRecDepth 100000 in
set_option maxHeartbeats 1000000 in
theorem c_X4_init {l : Launch} {D : va_G} {aC : Nat → ClassId} {b0 fu : Nat} {a0 : Nat} {σ τ : tM} {v : Unit} (hm : m_X4_init b0 fu a0 σ = some (v, τ)) : tMt l D aC b0 yX4_init (Cond.code yX4_init cX4_init 1 none) 1 20 [.ref (a0)] σ (.inl none) τ := by
  unfold m_X4_init at hm
  obtain ⟨hg, hm⟩ := grw_e hm
  refine tMt_of (n := 0) rfl (Nat.le_of_ble_eq_true rfl) hg ?_
  intro p e s m below meth c C htab hin
  refine zx_lv [0] [(0, .ref (a0))] rfl ?_
  refine zx_aload_n C dX4_init_0 0 rfl ?_
  refine zx_obj C W_2_188 W_1_26 W_1_27 (by decide) (by decide) (Nat.le_of_ble_eq_true rfl) dX4_init_1 ?_
  refine zx_aload_n C dX4_init_4 0 rfl ?_
  refine zx_bipush (v := 32) C dX4_init_5 (by decide) ?_
  refine zx_newJ C W_1_155 (by decide) (by decide) dX4_init_7 ?_
  refine zx_mem (fun ρ1 hρ1 => ?_)
  replace hm := ltb_e hm hρ1
  obtain ⟨k2, i3, hm⟩ := ckO_e hm
  refine zx_putF (j := 0) (ρ := sA (ρ1) (a0) 0 (some (b0 + tn (σ)))) C hin tC_4 k2 i3 (by decide) W_2_189 rfl rfl rfl rfl (sA_ok (fun _ => rfl)) dX4_init_9 ?_
  obtain ⟨rfl, rfl⟩ := ret_e hm
  exact zx_vret C rfl rfl rfl dX4_init_12
abbrev cX5_init : ByteArray := prog_7_method_1_code
def yX5_init : MethodName := ⟨"SyncTree$Space", "<init>", "()V"⟩
theorem Y_X5_init : tY yX5_init cX5_init 1 none 0 := ⟨W_1_91, W_1_3, ⟨by decide +kernel, by decide +kernel⟩, by decide +kernel⟩
theorem dX5_init_0 : decode cX5_init 0 = .ok (.aload_n 0, 1) := by decide +kernel
theorem dX5_init_1 : decode cX5_init 1 = .ok (.invokespecial 3, 3) := by decide +kernel
theorem dX5_init_4 : decode cX5_init 4 = .ok (.aload_n 0, 1) := by decide +kernel
theorem dX5_init_5 : decode cX5_init 5 = .ok (.ldc 9, 2) := by decide +kernel
theorem dX5_init_7 : decode cX5_init 7 = .ok (.newarray .long, 2) := by decide +kernel
theorem dX5_init_9 : decode cX5_init 9 = .ok (.putfield 10, 3) := by decide +kernel
theorem dX5_init_12 : decode cX5_init 12 = .ok (.aload_n 0, 1) := by decide +kernel
theorem dX5_init_13 : decode cX5_init 13 = .ok (.sipush 2034, 3) := by decide +kernel
theorem dX5_init_16 : decode cX5_init 16 = .ok (.newarray .int, 2) := by decide +kernel
theorem dX5_init_18 : decode cX5_init 18 = .ok (.putfield 16, 3) := by decide +kernel
theorem dX5_init_21 : decode cX5_init 21 = .ok (.aload_n 0, 1) := by decide +kernel
theorem dX5_init_22 : decode cX5_init 22 = .ok (.sipush 2034, 3) := by decide +kernel
theorem dX5_init_25 : decode cX5_init 25 = .ok (.newarray .int, 2) := by decide +kernel
theorem dX5_init_27 : decode cX5_init 27 = .ok (.putfield 20, 3) := by decide +kernel
theorem dX5_init_30 : decode cX5_init 30 = .ok (.aload_n 0, 1) := by decide +kernel
theorem dX5_init_31 : decode cX5_init 31 = .ok (.sipush 2034, 3) := by decide +kernel
theorem dX5_init_34 : decode cX5_init 34 = .ok (.newarray .byte, 2) := by decide +kernel
theorem dX5_init_36 : decode cX5_init 36 = .ok (.putfield 23, 3) := by decide +kernel
theorem dX5_init_39 : decode cX5_init 39 = .ok (.aload_n 0, 1) := by decide +kernel
theorem dX5_init_40 : decode cX5_init 40 = .ok (.sipush 2034, 3) := by decide +kernel
theorem dX5_init_43 : decode cX5_init 43 = .ok (.newarray .byte, 2) := by decide +kernel
theorem dX5_init_45 : decode cX5_init 45 = .ok (.putfield 27, 3) := by decide +kernel
theorem dX5_init_48 : decode cX5_init 48 = .ok (.aload_n 0, 1) := by decide +kernel
theorem dX5_init_49 : decode cX5_init 49 = .ok (.sipush 2034, 3) := by decide +kernel
theorem dX5_init_52 : decode cX5_init 52 = .ok (.newarray .byte, 2) := by decide +kernel
theorem dX5_init_54 : decode cX5_init 54 = .ok (.putfield 30, 3) := by decide +kernel
theorem dX5_init_57 : decode cX5_init 57 = .ok (.aload_n 0, 1) := by decide +kernel
theorem dX5_init_58 : decode cX5_init 58 = .ok (.sipush 2034, 3) := by decide +kernel
theorem dX5_init_61 : decode cX5_init 61 = .ok (.newarray .byte, 2) := by decide +kernel
theorem dX5_init_63 : decode cX5_init 63 = .ok (.putfield 33, 3) := by decide +kernel
theorem dX5_init_66 : decode cX5_init 66 = .ok (.return_, 1) := by decide +kernel
def m_X5_init (b0 fu : Nat) (a0 : Nat) (σ : tM) : Option ((Unit) × tM) := grw σ (ltb (sN (σ) (b0 + tn (σ)) (.inr (3, ((65536 : Int32)).toNatClampNeg)) (((65536 : Int32)).toNatClampNeg)) (fun ρ1 => ckO b0 (ρ1) (a0) 5 (ltb (sN (sA (ρ1) (a0) 0 (some (b0 + tn (σ)))) (b0 + tn (sA (ρ1) (a0) 0 (some (b0 + tn (σ))))) (.inr (0, ((2034 : Int32)).toNatClampNeg)) (((2034 : Int32)).toNatClampNeg)) (fun ρ4 => ckO b0 (ρ4) (a0) 5 (ltb (sN (sA (ρ4) (a0) 1 (some (b0 + tn (sA (ρ1) (a0) 0 (some (b0 + tn (σ))))))) (b0 + tn (sA (ρ4) (a0) 1 (some (b0 + tn (sA (ρ1) (a0) 0 (some (b0 + tn (σ)))))))) (.inr (0, ((2034 : Int32)).toNatClampNeg)) (((2034 : Int32)).toNatClampNeg)) (fun ρ7 => ckO b0 (ρ7) (a0) 5 (ltb (sN (sA (ρ7) (a0) 2 (some (b0 + tn (sA (ρ4) (a0) 1 (some (b0 + tn (sA (ρ1) (a0) 0 (some (b0 + tn (σ)))))))))) (b0 + tn (sA (ρ7) (a0) 2 (some (b0 + tn (sA (ρ4) (a0) 1 (some (b0 + tn (sA (ρ1) (a0) 0 (some (b0 + tn (σ))))))))))) (.inr (1, ((2034 : Int32)).toNatClampNeg)) (((2034 : Int32)).toNatClampNeg)) (fun ρ10 => ckO b0 (ρ10) (a0) 5 (ltb (sN (sA (ρ10) (a0) 3 (some (b0 + tn (sA (ρ7) (a0) 2 (some (b0 + tn (sA (ρ4) (a0) 1 (some (b0 + tn (sA (ρ1) (a0) 0 (some (b0 + tn (σ))))))))))))) (b0 + tn (sA (ρ10) (a0) 3 (some (b0 + tn (sA (ρ7) (a0) 2 (some (b0 + tn (sA (ρ4) (a0) 1 (some (b0 + tn (sA (ρ1) (a0) 0 (some (b0 + tn (σ)))))))))))))) (.inr (1, ((2034 : Int32)).toNatClampNeg)) (((2034 : Int32)).toNatClampNeg)) (fun ρ13 => ckO b0 (ρ13) (a0) 5 (ltb (sN (sA (ρ13) (a0) 4 (some (b0 + tn (sA (ρ10) (a0) 3 (some (b0 + tn (sA (ρ7) (a0) 2 (some (b0 + tn (sA (ρ4) (a0) 1 (some (b0 + tn (sA (ρ1) (a0) 0 (some (b0 + tn (σ)))))))))))))))) (b0 + tn (sA (ρ13) (a0) 4 (some (b0 + tn (sA (ρ10) (a0) 3 (some (b0 + tn (sA (ρ7) (a0) 2 (some (b0 + tn (sA (ρ4) (a0) 1 (some (b0 + tn (sA (ρ1) (a0) 0 (some (b0 + tn (σ))))))))))))))))) (.inr (1, ((2034 : Int32)).toNatClampNeg)) (((2034 : Int32)).toNatClampNeg)) (fun ρ16 => ckO b0 (ρ16) (a0) 5 (ltb (sN (sA (ρ16) (a0) 5 (some (b0 + tn (sA (ρ13) (a0) 4 (some (b0 + tn (sA (ρ10) (a0) 3 (some (b0 + tn (sA (ρ7) (a0) 2 (some (b0 + tn (sA (ρ4) (a0) 1 (some (b0 + tn (sA (ρ1) (a0) 0 (some (b0 + tn (σ))))))))))))))))))) (b0 + tn (sA (ρ16) (a0) 5 (some (b0 + tn (sA (ρ13) (a0) 4 (some (b0 + tn (sA (ρ10) (a0) 3 (some (b0 + tn (sA (ρ7) (a0) 2 (some (b0 + tn (sA (ρ4) (a0) 1 (some (b0 + tn (sA (ρ1) (a0) 0 (some (b0 + tn (σ)))))))))))))))))))) (.inr (1, ((2034 : Int32)).toNatClampNeg)) (((2034 : Int32)).toNatClampNeg)) (fun ρ19 => ckO b0 (ρ19) (a0) 5 (some ((), sA (ρ19) (a0) 6 (some (b0 + tn (sA (ρ16) (a0) 5 (some (b0 + tn (sA (ρ13) (a0) 4 (some (b0 + tn (sA (ρ10) (a0) 3 (some (b0 + tn (sA (ρ7) (a0) 2 (some (b0 + tn (sA (ρ4) (a0) 1 (some (b0 + tn (sA (ρ1) (a0) 0 (some (b0 + tn (σ)))))))))))))))))))))))))))))))))))))
set_option maxRecDepth 100000 in
set_option maxHeartbeats 1000000 in
theorem c_X5_init {l : Launch} {D : va_G} {aC : Nat → ClassId} {b0 fu : Nat} {a0 : Nat} {σ τ : tM} {v : Unit} (hm : m_X5_init b0 fu a0 σ = some (v, τ)) : tMt l D aC b0 yX5_init (Cond.code yX5_init cX5_init 1 none) 1 20 [.ref (a0)] σ (.inl none) τ := by
  unfold m_X5_init at hm
  obtain ⟨hg, hm⟩ := grw_e hm
  refine tMt_of (n := 0) rfl (Nat.le_of_ble_eq_true rfl) hg ?_
  intro p e s m below meth c C htab hin
  refine zx_lv [0] [(0, .ref (a0))] rfl ?_
  refine zx_aload_n C dX5_init_0 0 rfl ?_
  refine zx_obj C W_1_92 W_1_26 W_1_27 (by decide) (by decide) (Nat.le_of_ble_eq_true rfl) dX5_init_1 ?_
  refine zx_aload_n C dX5_init_4 0 rfl ?_
  refine zx_ldc (v := 65536) C W_1_93 dX5_init_5 ?_
  refine zx_newJ C W_1_155 (by decide) (by decide) dX5_init_7 ?_
  refine zx_mem (fun ρ1 hρ1 => ?_)
  replace hm := ltb_e hm hρ1
  obtain ⟨k2, i3, hm⟩ := ckO_e hm
  refine zx_putF (j := 0) (ρ := sA (ρ1) (a0) 0 (some (b0 + tn (σ)))) C hin tC_5 k2 i3 (by decide) W_1_94 rfl rfl rfl rfl (sA_ok (fun _ => rfl)) dX5_init_9 ?_
  refine zx_aload_n C dX5_init_12 0 rfl ?_
  refine zx_sipush (v := 2034) C dX5_init_13 (by decide) ?_
  refine zx_newI C W_1_85 (by decide) (by decide) dX5_init_16 ?_
  refine zx_mem (fun ρ4 hρ4 => ?_)
  replace hm := ltb_e hm hρ4
  obtain ⟨k5, i6, hm⟩ := ckO_e hm
  refine zx_putF (j := 1) (ρ := sA (ρ4) (a0) 1 (some (b0 + tn (sA (ρ1) (a0) 0 (some (b0 + tn (σ))))))) C hin tC_5 k5 i6 (by decide) W_1_97 rfl rfl rfl rfl (sA_ok (fun _ => rfl)) dX5_init_18 ?_
  refine zx_aload_n C dX5_init_21 0 rfl ?_
  refine zx_sipush (v := 2034) C dX5_init_22 (by decide) ?_
  refine zx_newI C W_1_85 (by decide) (by decide) dX5_init_25 ?_
  refine zx_mem (fun ρ7 hρ7 => ?_)
  replace hm := ltb_e hm hρ7
  obtain ⟨k8, i9, hm⟩ := ckO_e hm
  refine zx_putF (j := 2) (ρ := sA (ρ7) (a0) 2 (some (b0 + tn (sA (ρ4) (a0) 1 (some (b0 + tn (sA (ρ1) (a0) 0 (some (b0 + tn (σ)))))))))) C hin tC_5 k8 i9 (by decide) W_1_98 rfl rfl rfl rfl (sA_ok (fun _ => rfl)) dX5_init_27 ?_
  refine zx_aload_n C dX5_init_30 0 rfl ?_
  refine zx_sipush (v := 2034) C dX5_init_31 (by decide) ?_
  refine zx_newB C W_1_156 (by decide) (by decide) dX5_init_34 ?_
  refine zx_mem (fun ρ10 hρ10 => ?_)
  replace hm := ltb_e hm hρ10
  obtain ⟨k11, i12, hm⟩ := ckO_e hm
  refine zx_putF (j := 3) (ρ := sA (ρ10) (a0) 3 (some (b0 + tn (sA (ρ7) (a0) 2 (some (b0 + tn (sA (ρ4) (a0) 1 (some (b0 + tn (sA (ρ1) (a0) 0 (some (b0 + tn (σ))))))))))))) C hin tC_5 k11 i12 (by decide) W_1_99 rfl rfl rfl rfl (sA_ok (fun _ => rfl)) dX5_init_36 ?_
  refine zx_aload_n C dX5_init_39 0 rfl ?_
  refine zx_sipush (v := 2034) C dX5_init_40 (by decide) ?_
  refine zx_newB C W_1_156 (by decide) (by decide) dX5_init_43 ?_
  refine zx_mem (fun ρ13 hρ13 => ?_)
  replace hm := ltb_e hm hρ13
  obtain ⟨k14, i15, hm⟩ := ckO_e hm
  refine zx_putF (j := 4) (ρ := sA (ρ13) (a0) 4 (some (b0 + tn (sA (ρ10) (a0) 3 (some (b0 + tn (sA (ρ7) (a0) 2 (some (b0 + tn (sA (ρ4) (a0) 1 (some (b0 + tn (sA (ρ1) (a0) 0 (some (b0 + tn (σ)))))))))))))))) C hin tC_5 k14 i15 (by decide) W_1_100 rfl rfl rfl rfl (sA_ok (fun _ => rfl)) dX5_init_45 ?_
  refine zx_aload_n C dX5_init_48 0 rfl ?_
  refine zx_sipush (v := 2034) C dX5_init_49 (by decide) ?_
  refine zx_newB C W_1_156 (by decide) (by decide) dX5_init_52 ?_
  refine zx_mem (fun ρ16 hρ16 => ?_)
  replace hm := ltb_e hm hρ16
  obtain ⟨k17, i18, hm⟩ := ckO_e hm
  refine zx_putF (j := 5) (ρ := sA (ρ16) (a0) 5 (some (b0 + tn (sA (ρ13) (a0) 4 (some (b0 + tn (sA (ρ10) (a0) 3 (some (b0 + tn (sA (ρ7) (a0) 2 (some (b0 + tn (sA (ρ4) (a0) 1 (some (b0 + tn (sA (ρ1) (a0) 0 (some (b0 + tn (σ))))))))))))))))))) C hin tC_5 k17 i18 (by decide) W_1_101 rfl rfl rfl rfl (sA_ok (fun _ => rfl)) dX5_init_54 ?_
  refine zx_aload_n C dX5_init_57 0 rfl ?_
  refine zx_sipush (v := 2034) C dX5_init_58 (by decide) ?_
  refine zx_newB C W_1_156 (by decide) (by decide) dX5_init_61 ?_
  refine zx_mem (fun ρ19 hρ19 => ?_)
  replace hm := ltb_e hm hρ19
  obtain ⟨k20, i21, hm⟩ := ckO_e hm
  refine zx_putF (j := 6) (ρ := sA (ρ19) (a0) 6 (some (b0 + tn (sA (ρ16) (a0) 5 (some (b0 + tn (sA (ρ13) (a0) 4 (some (b0 + tn (sA (ρ10) (a0) 3 (some (b0 + tn (sA (ρ7) (a0) 2 (some (b0 + tn (sA (ρ4) (a0) 1 (some (b0 + tn (sA (ρ1) (a0) 0 (some (b0 + tn (σ)))))))))))))))))))))) C hin tC_5 k20 i21 (by decide) W_1_102 rfl rfl rfl rfl (sA_ok (fun _ => rfl)) dX5_init_63 ?_
  obtain ⟨rfl, rfl⟩ := ret_e hm
  exact zx_vret C rfl rfl rfl dX5_init_66
abbrev cX5_emptyGroup : ByteArray := prog_7_method_4_code
def yX5_emptyGroup : MethodName := ⟨"SyncTree$Space", "emptyGroup", "(I)V"⟩
theorem Y_X5_emptyGroup : tY yX5_emptyGroup cX5_emptyGroup 3 none 1 := ⟨W_2_126, W_1_3, ⟨by decide +kernel, by decide +kernel⟩, by decide +kernel⟩
theorem dX5_emptyGroup_0 : decode cX5_emptyGroup 0 = .ok (.iconst 0, 1) := by decide +kernel
theorem dX5_emptyGroup_1 : decode cX5_emptyGroup 1 = .ok (.istore_n 2, 1) := by decide +kernel
theorem dX5_emptyGroup_2 : decode cX5_emptyGroup 2 = .ok (.iload_n 2, 1) := by decide +kernel
theorem dX5_emptyGroup_3 : decode cX5_emptyGroup 3 = .ok (.aload_n 0, 1) := by decide +kernel
theorem dX5_emptyGroup_4 : decode cX5_emptyGroup 4 = .ok (.getfield 48, 3) := by decide +kernel
theorem dX5_emptyGroup_7 : decode cX5_emptyGroup 7 = .ok (.if_icmp .ge 65, 3) := by decide +kernel
theorem dX5_emptyGroup_10 : decode cX5_emptyGroup 10 = .ok (.aload_n 0, 1) := by decide +kernel
theorem dX5_emptyGroup_11 : decode cX5_emptyGroup 11 = .ok (.getfield 78, 3) := by decide +kernel
theorem dX5_emptyGroup_14 : decode cX5_emptyGroup 14 = .ok (.aload_n 0, 1) := by decide +kernel
theorem dX5_emptyGroup_15 : decode cX5_emptyGroup 15 = .ok (.getfield 81, 3) := by decide +kernel
theorem dX5_emptyGroup_18 : decode cX5_emptyGroup 18 = .ok (.iadd, 1) := by decide +kernel
theorem dX5_emptyGroup_19 : decode cX5_emptyGroup 19 = .ok (.ifCond .le 53, 3) := by decide +kernel
theorem dX5_emptyGroup_22 : decode cX5_emptyGroup 22 = .ok (.aload_n 0, 1) := by decide +kernel
theorem dX5_emptyGroup_23 : decode cX5_emptyGroup 23 = .ok (.dup, 1) := by decide +kernel
theorem dX5_emptyGroup_24 : decode cX5_emptyGroup 24 = .ok (.getfield 78, 3) := by decide +kernel
theorem dX5_emptyGroup_27 : decode cX5_emptyGroup 27 = .ok (.aload_n 0, 1) := by decide +kernel
theorem dX5_emptyGroup_28 : decode cX5_emptyGroup 28 = .ok (.getfield 27, 3) := by decide +kernel
theorem dX5_emptyGroup_31 : decode cX5_emptyGroup 31 = .ok (.iload_n 2, 1) := by decide +kernel
theorem dX5_emptyGroup_32 : decode cX5_emptyGroup 32 = .ok (.baload, 1) := by decide +kernel
theorem dX5_emptyGroup_33 : decode cX5_emptyGroup 33 = .ok (.isub, 1) := by decide +kernel
theorem dX5_emptyGroup_34 : decode cX5_emptyGroup 34 = .ok (.putfield 78, 3) := by decide +kernel
theorem dX5_emptyGroup_37 : decode cX5_emptyGroup 37 = .ok (.aload_n 0, 1) := by decide +kernel
theorem dX5_emptyGroup_38 : decode cX5_emptyGroup 38 = .ok (.dup, 1) := by decide +kernel
theorem dX5_emptyGroup_39 : decode cX5_emptyGroup 39 = .ok (.getfield 81, 3) := by decide +kernel
theorem dX5_emptyGroup_42 : decode cX5_emptyGroup 42 = .ok (.aload_n 0, 1) := by decide +kernel
theorem dX5_emptyGroup_43 : decode cX5_emptyGroup 43 = .ok (.getfield 30, 3) := by decide +kernel
theorem dX5_emptyGroup_46 : decode cX5_emptyGroup 46 = .ok (.iload_n 2, 1) := by decide +kernel
theorem dX5_emptyGroup_47 : decode cX5_emptyGroup 47 = .ok (.baload, 1) := by decide +kernel
theorem dX5_emptyGroup_48 : decode cX5_emptyGroup 48 = .ok (.isub, 1) := by decide +kernel
theorem dX5_emptyGroup_49 : decode cX5_emptyGroup 49 = .ok (.putfield 81, 3) := by decide +kernel
theorem dX5_emptyGroup_52 : decode cX5_emptyGroup 52 = .ok (.aload_n 0, 1) := by decide +kernel
theorem dX5_emptyGroup_53 : decode cX5_emptyGroup 53 = .ok (.getfield 27, 3) := by decide +kernel
theorem dX5_emptyGroup_56 : decode cX5_emptyGroup 56 = .ok (.iload_n 2, 1) := by decide +kernel
theorem dX5_emptyGroup_57 : decode cX5_emptyGroup 57 = .ok (.iconst 0, 1) := by decide +kernel
theorem dX5_emptyGroup_58 : decode cX5_emptyGroup 58 = .ok (.bastore, 1) := by decide +kernel
theorem dX5_emptyGroup_59 : decode cX5_emptyGroup 59 = .ok (.aload_n 0, 1) := by decide +kernel
theorem dX5_emptyGroup_60 : decode cX5_emptyGroup 60 = .ok (.getfield 30, 3) := by decide +kernel
theorem dX5_emptyGroup_63 : decode cX5_emptyGroup 63 = .ok (.iload_n 2, 1) := by decide +kernel
theorem dX5_emptyGroup_64 : decode cX5_emptyGroup 64 = .ok (.iconst 0, 1) := by decide +kernel
theorem dX5_emptyGroup_65 : decode cX5_emptyGroup 65 = .ok (.bastore, 1) := by decide +kernel
theorem dX5_emptyGroup_66 : decode cX5_emptyGroup 66 = .ok (.iinc 2 1, 3) := by decide +kernel
theorem dX5_emptyGroup_69 : decode cX5_emptyGroup 69 = .ok (.goto (-67), 3) := by decide +kernel
theorem dX5_emptyGroup_72 : decode cX5_emptyGroup 72 = .ok (.aload_n 0, 1) := by decide +kernel
theorem dX5_emptyGroup_73 : decode cX5_emptyGroup 73 = .ok (.iload_n 1, 1) := by decide +kernel
theorem dX5_emptyGroup_74 : decode cX5_emptyGroup 74 = .ok (.putfield 72, 3) := by decide +kernel
theorem dX5_emptyGroup_77 : decode cX5_emptyGroup 77 = .ok (.return_, 1) := by decide +kernel
def J_X5_emptyGroup_72 (b0 fu : Nat)  (x0 : Nat) (x1 : Int32) (σ : tM) : Option ((Unit) × tM) := ckO b0 (σ) (x0) 5 (some ((), sI (σ) (x0) 16 (x1)))
def L_X5_emptyGroup_2 (b0 fu : Nat)  : Nat → Nat → Int32 → Int32 → tM → Option ((Unit) × tM)
  | 0, _, _, _, _ => none
  | n + 1, x0, x1, x2, σ => ltb (L_X5_emptyGroup_2 b0 fu  n) (fun rc2 => ckO b0 (σ) (x0) 5 (if (tI (σ) (x0) 7) ≤ (x2) then J_X5_emptyGroup_72 b0 fu   (x0) (x1) (σ) else if ((tI (σ) (x0) 11) + (tI (σ) (x0) 12)) ≤ (0) then J_X5_emptyGroup_72 b0 fu   (x0) (x1) (σ) else osm (tA (σ) (x0) 4) (fun a7 => ckR b0 (σ) (a7) 1 (fun n11 => ckI (x2) (n11) (osm (tA (sI (σ) (x0) 11 ((tI (σ) (x0) 11) - (tI (σ) (a7) ((x2).toNatClampNeg)))) (x0) 5) (fun a13 => ckR b0 (sI (σ) (x0) 11 ((tI (σ) (x0) 11) - (tI (σ) (a7) ((x2).toNatClampNeg)))) (a13) 1 (fun n17 => ckI (x2) (n17) (osm (tA (sI (sI (σ) (x0) 11 ((tI (σ) (x0) 11) - (tI (σ) (a7) ((x2).toNatClampNeg)))) (x0) 12 ((tI (sI (σ) (x0) 11 ((tI (σ) (x0) 11) - (tI (σ) (a7) ((x2).toNatClampNeg)))) (x0) 12) - (tI (sI (σ) (x0) 11 ((tI (σ) (x0) 11) - (tI (σ) (a7) ((x2).toNatClampNeg)))) (a13) ((x2).toNatClampNeg)))) (x0) 4) (fun a19 => ckR b0 (sI (sI (σ) (x0) 11 ((tI (σ) (x0) 11) - (tI (σ) (a7) ((x2).toNatClampNeg)))) (x0) 12 ((tI (sI (σ) (x0) 11 ((tI (σ) (x0) 11) - (tI (σ) (a7) ((x2).toNatClampNeg)))) (x0) 12) - (tI (sI (σ) (x0) 11 ((tI (σ) (x0) 11) - (tI (σ) (a7) ((x2).toNatClampNeg)))) (a13) ((x2).toNatClampNeg)))) (a19) 1 (fun n23 => ckI (x2) (n23) (osm (tA (sI (sI (sI (σ) (x0) 11 ((tI (σ) (x0) 11) - (tI (σ) (a7) ((x2).toNatClampNeg)))) (x0) 12 ((tI (sI (σ) (x0) 11 ((tI (σ) (x0) 11) - (tI (σ) (a7) ((x2).toNatClampNeg)))) (x0) 12) - (tI (sI (σ) (x0) 11 ((tI (σ) (x0) 11) - (tI (σ) (a7) ((x2).toNatClampNeg)))) (a13) ((x2).toNatClampNeg)))) (a19) ((x2).toNatClampNeg) (vp_nar .byte ((0 : Int32)))) (x0) 5) (fun a25 => ckR b0 (sI (sI (sI (σ) (x0) 11 ((tI (σ) (x0) 11) - (tI (σ) (a7) ((x2).toNatClampNeg)))) (x0) 12 ((tI (sI (σ) (x0) 11 ((tI (σ) (x0) 11) - (tI (σ) (a7) ((x2).toNatClampNeg)))) (x0) 12) - (tI (sI (σ) (x0) 11 ((tI (σ) (x0) 11) - (tI (σ) (a7) ((x2).toNatClampNeg)))) (a13) ((x2).toNatClampNeg)))) (a19) ((x2).toNatClampNeg) (vp_nar .byte ((0 : Int32)))) (a25) 1 (fun n29 => ckI (x2) (n29) (ltb ((x2) + Int32.ofInt 1) (fun y31 => rc2 (x0) (x1) (y31) (sI (sI (sI (sI (σ) (x0) 11 ((tI (σ) (x0) 11) - (tI (σ) (a7) ((x2).toNatClampNeg)))) (x0) 12 ((tI (sI (σ) (x0) 11 ((tI (σ) (x0) 11) - (tI (σ) (a7) ((x2).toNatClampNeg)))) (x0) 12) - (tI (sI (σ) (x0) 11 ((tI (σ) (x0) 11) - (tI (σ) (a7) ((x2).toNatClampNeg)))) (a13) ((x2).toNatClampNeg)))) (a19) ((x2).toNatClampNeg) (vp_nar .byte ((0 : Int32)))) (a25) ((x2).toNatClampNeg) (vp_nar .byte ((0 : Int32)))))))))))))))))))
def m_X5_emptyGroup (b0 fu : Nat) (a0 : Nat) (p0 : Int32) (σ : tM) : Option ((Unit) × tM) := grw σ (L_X5_emptyGroup_2 b0 fu  (fu) (a0) (p0) (0) (σ))
set_option maxRecDepth 100000 in
set_option maxHeartbeats 1000000 in
theorem j_X5_emptyGroup_72 {p : Program} {l : Launch} {e : Env} {s : State} {m : MethodId} {args : Array Value} {below : List Frame} {meth : Method} {c : Code} {D : va_G} {aC : Nat → ClassId} {b0 fu : Nat} {σ0 τ : tM} {v : Unit}  (C : tCx p s m args meth c yX5_emptyGroup.cls cX5_emptyGroup 3 none D aC b0 σ0) (htab : ∀ x ∈ c.exceptionTable.toList, False) (hin : meth.name = yX5_emptyGroup.name)  {x0 : Nat} {x1 : Int32} {σ : tM} (hm : J_X5_emptyGroup_72 b0 fu  x0 x1 σ = some (v, τ)) : tX p l e s m args below meth c 3 0 0 D aC b0 σ0 (.inl none) τ 72 [(0, .ref (x0)), (1, .int (x1))] [] σ := by
  unfold J_X5_emptyGroup_72 at hm
  refine zx_aload_n C dX5_emptyGroup_72 0 rfl ?_
  refine zx_iload_n C dX5_emptyGroup_73 1 rfl ?_
  obtain ⟨k4, i5, hm⟩ := ckO_e hm
  refine zx_put (j := 16) (ρ := sI (σ) (x0) 16 (x1)) C tC_5 k4 i5 ⟨by decide, Or.inl W_1_119⟩ rfl rfl rfl (sI_ok (fun _ => rfl)) dX5_emptyGroup_74 ?_
  obtain ⟨rfl, rfl⟩ := ret_e hm
  exact zx_vret C rfl rfl rfl dX5_emptyGroup_77
set_option maxRecDepth 100000 in
set_option maxHeartbeats 1000000 in
theorem l_X5_emptyGroup_2 {p : Program} {l : Launch} {e : Env} {s : State} {m : MethodId} {args : Array Value} {below : List Frame} {meth : Method} {c : Code} {D : va_G} {aC : Nat → ClassId} {b0 fu : Nat} {σ0 τ : tM} {v : Unit}  (C : tCx p s m args meth c yX5_emptyGroup.cls cX5_emptyGroup 3 none D aC b0 σ0) (htab : ∀ x ∈ c.exceptionTable.toList, False) (hin : meth.name = yX5_emptyGroup.name)  : ∀ (n : Nat) (x0 : Nat) (x1 : Int32) (x2 : Int32) (σ : tM), L_X5_emptyGroup_2 b0 fu  n x0 x1 x2 σ = some (v, τ) → tX p l e s m args below meth c 3 0 0 D aC b0 σ0 (.inl none) τ 2 [(0, .ref (x0)), (1, .int (x1)), (2, .int (x2))] [] σ := by
  intro n
  induction n with
  | zero => intro x0 x1 x2 σ hm; unfold L_X5_emptyGroup_2 at hm; cases hm
  | succ n ih =>
    intro x0 x1 x2 σ hm
    unfold L_X5_emptyGroup_2 at hm
    obtain ⟨rc2, hrc⟩ : ∃ z, z = L_X5_emptyGroup_2 b0 fu  n := ⟨_, rfl⟩
    replace hm := ltb_e hm hrc
    rw [← hrc] at ih
    have hrc2 := ih
    clear ih hrc
    refine zx_iload_n C dX5_emptyGroup_2 2 rfl ?_
    refine zx_aload_n C dX5_emptyGroup_3 0 rfl ?_
    obtain ⟨k1, i2, hm⟩ := ckO_e hm
    refine zx_get (j := 7) C tC_5 k1 i2 ⟨by decide, Or.inl W_1_104⟩ dX5_emptyGroup_4 (.int (tI (σ) (x0) 7)) rfl ?_
    refine zx_icmp_ge C 72 dX5_emptyGroup_7 (by decide) (fun c3 => ?_) (fun c3 => ?_)
    · replace hm := ip_e hm c3
      exact zx_lv [0, 1] [(0, .ref (x0)), (1, .int (x1))] rfl (j_X5_emptyGroup_72 C htab hin    hm)
    · replace hm := in_e hm c3
      refine zx_aload_n C dX5_emptyGroup_10 0 rfl ?_
      refine zx_get (j := 11) C tC_5 k1 i2 ⟨by decide, Or.inl W_1_111⟩ dX5_emptyGroup_11 (.int (tI (σ) (x0) 11)) rfl ?_
      refine zx_aload_n C dX5_emptyGroup_14 0 rfl ?_
      refine zx_get (j := 12) C tC_5 k1 i2 ⟨by decide, Or.inl W_1_113⟩ dX5_emptyGroup_15 (.int (tI (σ) (x0) 12)) rfl ?_
      refine zx_iadd C dX5_emptyGroup_18 ?_
      refine zx_if_le C 72 dX5_emptyGroup_19 (by decide) (fun c6 => ?_) (fun c6 => ?_)
      · replace hm := ip_e hm c6
        exact zx_lv [0, 1] [(0, .ref (x0)), (1, .int (x1))] rfl (j_X5_emptyGroup_72 C htab hin    hm)
      · replace hm := in_e hm c6
        refine zx_aload_n C dX5_emptyGroup_22 0 rfl ?_
        refine zx_dup C dX5_emptyGroup_23 rfl ?_
        refine zx_get (j := 11) C tC_5 k1 i2 ⟨by decide, Or.inl W_1_111⟩ dX5_emptyGroup_24 (.int (tI (σ) (x0) 11)) rfl ?_
        refine zx_aload_n C dX5_emptyGroup_27 0 rfl ?_
        obtain ⟨a7, h8, hm⟩ := osm_e hm
        refine zx_get (j := 4) C tC_5 k1 i2 ⟨by decide, Or.inl W_1_100⟩ dX5_emptyGroup_28 (.ref a7) (rf_s h8) ?_
        refine zx_iload_n C dX5_emptyGroup_31 2 rfl ?_
        obtain ⟨n11, k9, i10, hm⟩ := ckR_e hm
        obtain ⟨h12, hm⟩ := ckI_e hm
        refine zx_bald C k9 i10 h12 dX5_emptyGroup_32 ?_
        refine zx_isub C dX5_emptyGroup_33 ?_
        refine zx_put (j := 11) (ρ := sI (σ) (x0) 11 ((tI (σ) (x0) 11) - (tI (σ) (a7) ((x2).toNatClampNeg)))) C tC_5 k1 i2 ⟨by decide, Or.inl W_1_111⟩ rfl rfl rfl (sI_ok (fun _ => rfl)) dX5_emptyGroup_34 ?_
        refine zx_aload_n C dX5_emptyGroup_37 0 rfl ?_
        refine zx_dup C dX5_emptyGroup_38 rfl ?_
        refine zx_get (j := 12) C tC_5 k1 i2 ⟨by decide, Or.inl W_1_113⟩ dX5_emptyGroup_39 (.int (tI (sI (σ) (x0) 11 ((tI (σ) (x0) 11) - (tI (σ) (a7) ((x2).toNatClampNeg)))) (x0) 12)) rfl ?_
        refine zx_aload_n C dX5_emptyGroup_42 0 rfl ?_
        obtain ⟨a13, h14, hm⟩ := osm_e hm
        refine zx_get (j := 5) C tC_5 k1 i2 ⟨by decide, Or.inl W_1_101⟩ dX5_emptyGroup_43 (.ref a13) (rf_s h14) ?_
        refine zx_iload_n C dX5_emptyGroup_46 2 rfl ?_
        obtain ⟨n17, k15, i16, hm⟩ := ckR_e hm
        obtain ⟨h18, hm⟩ := ckI_e hm
        refine zx_bald C k15 i16 h18 dX5_emptyGroup_47 ?_
        refine zx_isub C dX5_emptyGroup_48 ?_
        refine zx_put (j := 12) (ρ := sI (sI (σ) (x0) 11 ((tI (σ) (x0) 11) - (tI (σ) (a7) ((x2).toNatClampNeg)))) (x0) 12 ((tI (sI (σ) (x0) 11 ((tI (σ) (x0) 11) - (tI (σ) (a7) ((x2).toNatClampNeg)))) (x0) 12) - (tI (sI (σ) (x0) 11 ((tI (σ) (x0) 11) - (tI (σ) (a7) ((x2).toNatClampNeg)))) (a13) ((x2).toNatClampNeg)))) C tC_5 k1 i2 ⟨by decide, Or.inl W_1_113⟩ rfl rfl rfl (sI_ok (fun _ => rfl)) dX5_emptyGroup_49 ?_
        refine zx_aload_n C dX5_emptyGroup_52 0 rfl ?_
        obtain ⟨a19, h20, hm⟩ := osm_e hm
        refine zx_get (j := 4) C tC_5 k1 i2 ⟨by decide, Or.inl W_1_100⟩ dX5_emptyGroup_53 (.ref a19) (rf_s h20) ?_
        refine zx_iload_n C dX5_emptyGroup_56 2 rfl ?_
        refine zx_iconst (v := 0) C dX5_emptyGroup_57 (by decide) ?_
        obtain ⟨n23, k21, i22, hm⟩ := ckR_e hm
        obtain ⟨h24, hm⟩ := ckI_e hm
        refine zx_bast C k21 i22 h24 dX5_emptyGroup_58 ?_
        refine zx_aload_n C dX5_emptyGroup_59 0 rfl ?_
        obtain ⟨a25, h26, hm⟩ := osm_e hm
        refine zx_get (j := 5) C tC_5 k1 i2 ⟨by decide, Or.inl W_1_101⟩ dX5_emptyGroup_60 (.ref a25) (rf_s h26) ?_
        refine zx_iload_n C dX5_emptyGroup_63 2 rfl ?_
        refine zx_iconst (v := 0) C dX5_emptyGroup_64 (by decide) ?_
        obtain ⟨n29, k27, i28, hm⟩ := ckR_e hm
        obtain ⟨h30, hm⟩ := ckI_e hm
        refine zx_bast C k27 i28 h30 dX5_emptyGroup_65 ?_
        obtain ⟨y31, hy31⟩ : ∃ z : Int32, z = (x2) + Int32.ofInt 1 := ⟨_, rfl⟩
        replace hm := ltb_e hm hy31
        refine zx_iinc C [(2, .int (y31)), (0, .ref (x0)), (1, .int (x1))] dX5_emptyGroup_66 2 rfl hy31.symm (by decide) rfl ?_
        refine zx_goto C 2 dX5_emptyGroup_69 (by decide) ?_
        exact zx_lv [1, 2, 0] [(0, .ref (x0)), (1, .int (x1)), (2, .int (y31))] rfl (hrc2 _ _ _ _ hm)
set_option maxRecDepth 100000 in
set_option maxHeartbeats 1000000 in
theorem c_X5_emptyGroup {l : Launch} {D : va_G} {aC : Nat → ClassId} {b0 fu : Nat} {a0 : Nat} {p0 : Int32} {σ τ : tM} {v : Unit} (hm : m_X5_emptyGroup b0 fu a0 p0 σ = some (v, τ)) : tMt l D aC b0 yX5_emptyGroup (Cond.code yX5_emptyGroup cX5_emptyGroup 3 none) 0 0 [.ref (a0), .int (p0)] σ (.inl none) τ := by
  unfold m_X5_emptyGroup at hm
  obtain ⟨hg, hm⟩ := grw_e hm
  refine tMt_of (n := 0) rfl (Nat.le_of_ble_eq_true rfl) hg ?_
  intro p e s m below meth c C htab hin
  refine zx_lv [0, 1] [(0, .ref (a0)), (1, .int (p0))] rfl ?_
  refine zx_iconst (v := 0) C dX5_emptyGroup_0 (by decide) ?_
  refine zx_istore_n C [(2, .int (0)), (0, .ref (a0)), (1, .int (p0))] dX5_emptyGroup_1 rfl (by decide) rfl ?_
  exact zx_lv [1, 2, 0] [(0, .ref (a0)), (1, .int (p0)), (2, .int (0))] rfl (l_X5_emptyGroup_2 C htab hin  _ _ _ _ _ hm)
abbrev cX5_numberOf : ByteArray := prog_7_method_6_code
def yX5_numberOf : MethodName := ⟨"SyncTree$Space", "numberOf", "(I)I"⟩
theorem Y_X5_numberOf : tY yX5_numberOf cX5_numberOf 2 (some .int) 1 := ⟨W_4_8, W_1_3, ⟨by decide +kernel, by decide +kernel⟩, by decide +kernel⟩
theorem dX5_numberOf_0 : decode cX5_numberOf 0 = .ok (.iload_n 1, 1) := by decide +kernel
theorem dX5_numberOf_1 : decode cX5_numberOf 1 = .ok (.bipush 34, 2) := by decide +kernel
theorem dX5_numberOf_3 : decode cX5_numberOf 3 = .ok (.if_icmp .ge 7, 3) := by decide +kernel
theorem dX5_numberOf_6 : decode cX5_numberOf 6 = .ok (.iload_n 1, 1) := by decide +kernel
theorem dX5_numberOf_7 : decode cX5_numberOf 7 = .ok (.goto 9, 3) := by decide +kernel
theorem dX5_numberOf_10 : decode cX5_numberOf 10 = .ok (.iload_n 1, 1) := by decide +kernel
theorem dX5_numberOf_11 : decode cX5_numberOf 11 = .ok (.aload_n 0, 1) := by decide +kernel
theorem dX5_numberOf_12 : decode cX5_numberOf 12 = .ok (.getfield 52, 3) := by decide +kernel
theorem dX5_numberOf_15 : decode cX5_numberOf 15 = .ok (.iadd, 1) := by decide +kernel
theorem dX5_numberOf_16 : decode cX5_numberOf 16 = .ok (.ireturn, 1) := by decide +kernel
def J_X5_numberOf_16 (b0 fu : Nat)  (s0 : Int32) (σ : tM) : Option ((Int32) × tM) := some (s0, σ)
def m_X5_numberOf (b0 fu : Nat) (a0 : Nat) (p0 : Int32) (σ : tM) : Option ((Int32) × tM) := grw σ (if (34) ≤ (p0) then ckO b0 (σ) (a0) 5 (J_X5_numberOf_16 b0 fu   ((p0) + (tI (σ) (a0) 8)) (σ)) else J_X5_numberOf_16 b0 fu   (p0) (σ))
set_option maxRecDepth 100000 in
set_option maxHeartbeats 1000000 in
theorem j_X5_numberOf_16 {p : Program} {l : Launch} {e : Env} {s : State} {m : MethodId} {args : Array Value} {below : List Frame} {meth : Method} {c : Code} {D : va_G} {aC : Nat → ClassId} {b0 fu : Nat} {σ0 τ : tM} {v : Int32}  (C : tCx p s m args meth c yX5_numberOf.cls cX5_numberOf 2 (some .int) D aC b0 σ0) (htab : ∀ x ∈ c.exceptionTable.toList, False) (hin : meth.name = yX5_numberOf.name)  {s0 : Int32} {σ : tM} (hm : J_X5_numberOf_16 b0 fu  s0 σ = some (v, τ)) : tX p l e s m args below meth c 2 0 0 D aC b0 σ0 (.inl (some (.int v))) τ 16 [] [.int (s0)] σ := by
  unfold J_X5_numberOf_16 at hm
  obtain ⟨rfl, rfl⟩ := ret_e hm
  exact zx_iret C rfl rfl rfl dX5_numberOf_16
set_option maxRecDepth 100000 in
set_option maxHeartbeats 1000000 in
theorem c_X5_numberOf {l : Launch} {D : va_G} {aC : Nat → ClassId} {b0 fu : Nat} {a0 : Nat} {p0 : Int32} {σ τ : tM} {v : Int32} (hm : m_X5_numberOf b0 fu a0 p0 σ = some (v, τ)) : tMt l D aC b0 yX5_numberOf (Cond.code yX5_numberOf cX5_numberOf 2 (some .int)) 0 0 [.ref (a0), .int (p0)] σ (.inl (some (.int v))) τ := by
  unfold m_X5_numberOf at hm
  obtain ⟨hg, hm⟩ := grw_e hm
  refine tMt_of (n := 0) rfl (Nat.le_of_ble_eq_true rfl) hg ?_
  intro p e s m below meth c C htab hin
  refine zx_lv [0, 1] [(0, .ref (a0)), (1, .int (p0))] rfl ?_
  refine zx_iload_n C dX5_numberOf_0 1 rfl ?_
  refine zx_bipush (v := 34) C dX5_numberOf_1 (by decide) ?_
  refine zx_icmp_ge C 10 dX5_numberOf_3 (by decide) (fun c1 => ?_) (fun c1 => ?_)
  · replace hm := ip_e hm c1
    refine zx_iload_n C dX5_numberOf_10 1 rfl ?_
    refine zx_aload_n C dX5_numberOf_11 0 rfl ?_
    obtain ⟨k2, i3, hm⟩ := ckO_e hm
    refine zx_get (j := 8) C tC_5 k2 i3 ⟨by decide, Or.inl W_1_106⟩ dX5_numberOf_12 (.int (tI (σ) (a0) 8)) rfl ?_
    refine zx_iadd C dX5_numberOf_15 ?_
    exact zx_lv [] [] rfl (j_X5_numberOf_16 C htab hin    hm)
  · replace hm := in_e hm c1
    refine zx_iload_n C dX5_numberOf_6 1 rfl ?_
    refine zx_goto C 16 dX5_numberOf_7 (by decide) ?_
    exact zx_lv [] [] rfl (j_X5_numberOf_16 C htab hin    hm)
abbrev cX5_birthOf : ByteArray := prog_7_method_7_code
def yX5_birthOf : MethodName := ⟨"SyncTree$Space", "birthOf", "(I)I"⟩
theorem Y_X5_birthOf : tY yX5_birthOf cX5_birthOf 2 (some .int) 1 := ⟨W_6_51, W_1_3, ⟨by decide +kernel, by decide +kernel⟩, by decide +kernel⟩
theorem dX5_birthOf_0 : decode cX5_birthOf 0 = .ok (.iload_n 1, 1) := by decide +kernel
theorem dX5_birthOf_1 : decode cX5_birthOf 1 = .ok (.ifCond .lt 11, 3) := by decide +kernel
theorem dX5_birthOf_4 : decode cX5_birthOf 4 = .ok (.iload_n 1, 1) := by decide +kernel
theorem dX5_birthOf_5 : decode cX5_birthOf 5 = .ok (.aload_n 0, 1) := by decide +kernel
theorem dX5_birthOf_6 : decode cX5_birthOf 6 = .ok (.getfield 48, 3) := by decide +kernel
theorem dX5_birthOf_9 : decode cX5_birthOf 9 = .ok (.if_icmp .lt 7, 3) := by decide +kernel
theorem dX5_birthOf_12 : decode cX5_birthOf 12 = .ok (.iconst 0, 1) := by decide +kernel
theorem dX5_birthOf_13 : decode cX5_birthOf 13 = .ok (.goto 9, 3) := by decide +kernel
theorem dX5_birthOf_16 : decode cX5_birthOf 16 = .ok (.aload_n 0, 1) := by decide +kernel
theorem dX5_birthOf_17 : decode cX5_birthOf 17 = .ok (.getfield 20, 3) := by decide +kernel
theorem dX5_birthOf_20 : decode cX5_birthOf 20 = .ok (.iload_n 1, 1) := by decide +kernel
theorem dX5_birthOf_21 : decode cX5_birthOf 21 = .ok (.iaload, 1) := by decide +kernel
theorem dX5_birthOf_22 : decode cX5_birthOf 22 = .ok (.ireturn, 1) := by decide +kernel
def J_X5_birthOf_22 (b0 fu : Nat)  (s0 : Int32) (σ : tM) : Option ((Int32) × tM) := some (s0, σ)
def J_X5_birthOf_12 (b0 fu : Nat)   (σ : tM) : Option ((Int32) × tM) := J_X5_birthOf_22 b0 fu   (0) (σ)
def m_X5_birthOf (b0 fu : Nat) (a0 : Nat) (p0 : Int32) (σ : tM) : Option ((Int32) × tM) := grw σ (if (p0) < (0) then J_X5_birthOf_12 b0 fu    (σ) else ckO b0 (σ) (a0) 5 (if (p0) < (tI (σ) (a0) 7) then osm (tA (σ) (a0) 2) (fun a5 => ckR b0 (σ) (a5) 0 (fun n9 => ckI (p0) (n9) (J_X5_birthOf_22 b0 fu   (tI (σ) (a5) ((p0).toNatClampNeg)) (σ)))) else J_X5_birthOf_12 b0 fu    (σ)))
set_option maxRecDepth 100000 in
set_option maxHeartbeats 1000000 in
theorem j_X5_birthOf_22 {p : Program} {l : Launch} {e : Env} {s : State} {m : MethodId} {args : Array Value} {below : List Frame} {meth : Method} {c : Code} {D : va_G} {aC : Nat → ClassId} {b0 fu : Nat} {σ0 τ : tM} {v : Int32}  (C : tCx p s m args meth c yX5_birthOf.cls cX5_birthOf 2 (some .int) D aC b0 σ0) (htab : ∀ x ∈ c.exceptionTable.toList, False) (hin : meth.name = yX5_birthOf.name)  {s0 : Int32} {σ : tM} (hm : J_X5_birthOf_22 b0 fu  s0 σ = some (v, τ)) : tX p l e s m args below meth c 2 0 0 D aC b0 σ0 (.inl (some (.int v))) τ 22 [] [.int (s0)] σ := by
  unfold J_X5_birthOf_22 at hm
  obtain ⟨rfl, rfl⟩ := ret_e hm
  exact zx_iret C rfl rfl rfl dX5_birthOf_22
set_option maxRecDepth 100000 in
set_option maxHeartbeats 1000000 in
theorem j_X5_birthOf_12 {p : Program} {l : Launch} {e : Env} {s : State} {m : MethodId} {args : Array Value} {below : List Frame} {meth : Method} {c : Code} {D : va_G} {aC : Nat → ClassId} {b0 fu : Nat} {σ0 τ : tM} {v : Int32}  (C : tCx p s m args meth c yX5_birthOf.cls cX5_birthOf 2 (some .int) D aC b0 σ0) (htab : ∀ x ∈ c.exceptionTable.toList, False) (hin : meth.name = yX5_birthOf.name)   {σ : tM} (hm : J_X5_birthOf_12 b0 fu   σ = some (v, τ)) : tX p l e s m args below meth c 2 0 0 D aC b0 σ0 (.inl (some (.int v))) τ 12 [] [] σ := by
  unfold J_X5_birthOf_12 at hm
  refine zx_iconst (v := 0) C dX5_birthOf_12 (by decide) ?_
  refine zx_goto C 22 dX5_birthOf_13 (by decide) ?_
  exact zx_lv [] [] rfl (j_X5_birthOf_22 C htab hin    hm)
set_option maxRecDepth 100000 in
set_option maxHeartbeats 1000000 in
theorem c_X5_birthOf {l : Launch} {D : va_G} {aC : Nat → ClassId} {b0 fu : Nat} {a0 : Nat} {p0 : Int32} {σ τ : tM} {v : Int32} (hm : m_X5_birthOf b0 fu a0 p0 σ = some (v, τ)) : tMt l D aC b0 yX5_birthOf (Cond.code yX5_birthOf cX5_birthOf 2 (some .int)) 0 0 [.ref (a0), .int (p0)] σ (.inl (some (.int v))) τ := by
  unfold m_X5_birthOf at hm
  obtain ⟨hg, hm⟩ := grw_e hm
  refine tMt_of (n := 0) rfl (Nat.le_of_ble_eq_true rfl) hg ?_
  intro p e s m below meth c C htab hin
  refine zx_lv [0, 1] [(0, .ref (a0)), (1, .int (p0))] rfl ?_
  refine zx_iload_n C dX5_birthOf_0 1 rfl ?_
  refine zx_if_lt C 12 dX5_birthOf_1 (by decide) (fun c1 => ?_) (fun c1 => ?_)
  · replace hm := ip_e hm c1
    exact zx_lv [] [] rfl (j_X5_birthOf_12 C htab hin    hm)
  · replace hm := in_e hm c1
    refine zx_iload_n C dX5_birthOf_4 1 rfl ?_
    refine zx_aload_n C dX5_birthOf_5 0 rfl ?_
    obtain ⟨k2, i3, hm⟩ := ckO_e hm
    refine zx_get (j := 7) C tC_5 k2 i3 ⟨by decide, Or.inl W_1_104⟩ dX5_birthOf_6 (.int (tI (σ) (a0) 7)) rfl ?_
    refine zx_icmp_lt C 16 dX5_birthOf_9 (by decide) (fun c4 => ?_) (fun c4 => ?_)
    · replace hm := ip_e hm c4
      refine zx_aload_n C dX5_birthOf_16 0 rfl ?_
      obtain ⟨a5, h6, hm⟩ := osm_e hm
      refine zx_get (j := 2) C tC_5 k2 i3 ⟨by decide, Or.inl W_1_98⟩ dX5_birthOf_17 (.ref a5) (rf_s h6) ?_
      refine zx_iload_n C dX5_birthOf_20 1 rfl ?_
      obtain ⟨n9, k7, i8, hm⟩ := ckR_e hm
      obtain ⟨h10, hm⟩ := ckI_e hm
      refine zx_iald C k7 i8 h10 dX5_birthOf_21 ?_
      exact zx_lv [] [] rfl (j_X5_birthOf_22 C htab hin    hm)
    · replace hm := in_e hm c4
      exact zx_lv [] [] rfl (j_X5_birthOf_12 C htab hin    hm)
abbrev cX5_ownerOf : ByteArray := prog_7_method_8_code
def yX5_ownerOf : MethodName := ⟨"SyncTree$Space", "ownerOf", "(I)I"⟩
theorem Y_X5_ownerOf : tY yX5_ownerOf cX5_ownerOf 2 (some .int) 1 := ⟨W_6_47, W_1_3, ⟨by decide +kernel, by decide +kernel⟩, by decide +kernel⟩
theorem dX5_ownerOf_0 : decode cX5_ownerOf 0 = .ok (.iload_n 1, 1) := by decide +kernel
theorem dX5_ownerOf_1 : decode cX5_ownerOf 1 = .ok (.ifCond .lt 11, 3) := by decide +kernel
theorem dX5_ownerOf_4 : decode cX5_ownerOf 4 = .ok (.iload_n 1, 1) := by decide +kernel
theorem dX5_ownerOf_5 : decode cX5_ownerOf 5 = .ok (.aload_n 0, 1) := by decide +kernel
theorem dX5_ownerOf_6 : decode cX5_ownerOf 6 = .ok (.getfield 48, 3) := by decide +kernel
theorem dX5_ownerOf_9 : decode cX5_ownerOf 9 = .ok (.if_icmp .lt 7, 3) := by decide +kernel
theorem dX5_ownerOf_12 : decode cX5_ownerOf 12 = .ok (.iconst (-1), 1) := by decide +kernel
theorem dX5_ownerOf_13 : decode cX5_ownerOf 13 = .ok (.goto 9, 3) := by decide +kernel
theorem dX5_ownerOf_16 : decode cX5_ownerOf 16 = .ok (.aload_n 0, 1) := by decide +kernel
theorem dX5_ownerOf_17 : decode cX5_ownerOf 17 = .ok (.getfield 23, 3) := by decide +kernel
theorem dX5_ownerOf_20 : decode cX5_ownerOf 20 = .ok (.iload_n 1, 1) := by decide +kernel
theorem dX5_ownerOf_21 : decode cX5_ownerOf 21 = .ok (.baload, 1) := by decide +kernel
theorem dX5_ownerOf_22 : decode cX5_ownerOf 22 = .ok (.ireturn, 1) := by decide +kernel
def J_X5_ownerOf_22 (b0 fu : Nat)  (s0 : Int32) (σ : tM) : Option ((Int32) × tM) := some (s0, σ)
def J_X5_ownerOf_12 (b0 fu : Nat)   (σ : tM) : Option ((Int32) × tM) := J_X5_ownerOf_22 b0 fu   ((-1)) (σ)
def m_X5_ownerOf (b0 fu : Nat) (a0 : Nat) (p0 : Int32) (σ : tM) : Option ((Int32) × tM) := grw σ (if (p0) < (0) then J_X5_ownerOf_12 b0 fu    (σ) else ckO b0 (σ) (a0) 5 (if (p0) < (tI (σ) (a0) 7) then osm (tA (σ) (a0) 3) (fun a5 => ckR b0 (σ) (a5) 1 (fun n9 => ckI (p0) (n9) (J_X5_ownerOf_22 b0 fu   (tI (σ) (a5) ((p0).toNatClampNeg)) (σ)))) else J_X5_ownerOf_12 b0 fu    (σ)))
set_option maxRecDepth 100000 in
set_option maxHeartbeats 1000000 in
theorem j_X5_ownerOf_22 {p : Program} {l : Launch} {e : Env} {s : State} {m : MethodId} {args : Array Value} {below : List Frame} {meth : Method} {c : Code} {D : va_G} {aC : Nat → ClassId} {b0 fu : Nat} {σ0 τ : tM} {v : Int32}  (C : tCx p s m args meth c yX5_ownerOf.cls cX5_ownerOf 2 (some .int) D aC b0 σ0) (htab : ∀ x ∈ c.exceptionTable.toList, False) (hin : meth.name = yX5_ownerOf.name)  {s0 : Int32} {σ : tM} (hm : J_X5_ownerOf_22 b0 fu  s0 σ = some (v, τ)) : tX p l e s m args below meth c 2 0 0 D aC b0 σ0 (.inl (some (.int v))) τ 22 [] [.int (s0)] σ := by
  unfold J_X5_ownerOf_22 at hm
  obtain ⟨rfl, rfl⟩ := ret_e hm
  exact zx_iret C rfl rfl rfl dX5_ownerOf_22
set_option maxRecDepth 100000 in
set_option maxHeartbeats 1000000 in
theorem j_X5_ownerOf_12 {p : Program} {l : Launch} {e : Env} {s : State} {m : MethodId} {args : Array Value} {below : List Frame} {meth : Method} {c : Code} {D : va_G} {aC : Nat → ClassId} {b0 fu : Nat} {σ0 τ : tM} {v : Int32}  (C : tCx p s m args meth c yX5_ownerOf.cls cX5_ownerOf 2 (some .int) D aC b0 σ0) (htab : ∀ x ∈ c.exceptionTable.toList, False) (hin : meth.name = yX5_ownerOf.name)   {σ : tM} (hm : J_X5_ownerOf_12 b0 fu   σ = some (v, τ)) : tX p l e s m args below meth c 2 0 0 D aC b0 σ0 (.inl (some (.int v))) τ 12 [] [] σ := by
  unfold J_X5_ownerOf_12 at hm
  refine zx_iconst (v := (-1)) C dX5_ownerOf_12 (by decide) ?_
  refine zx_goto C 22 dX5_ownerOf_13 (by decide) ?_
  exact zx_lv [] [] rfl (j_X5_ownerOf_22 C htab hin    hm)
set_option maxRecDepth 100000 in
set_option maxHeartbeats 1000000 in
theorem c_X5_ownerOf {l : Launch} {D : va_G} {aC : Nat → ClassId} {b0 fu : Nat} {a0 : Nat} {p0 : Int32} {σ τ : tM} {v : Int32} (hm : m_X5_ownerOf b0 fu a0 p0 σ = some (v, τ)) : tMt l D aC b0 yX5_ownerOf (Cond.code yX5_ownerOf cX5_ownerOf 2 (some .int)) 0 0 [.ref (a0), .int (p0)] σ (.inl (some (.int v))) τ := by
  unfold m_X5_ownerOf at hm
  obtain ⟨hg, hm⟩ := grw_e hm
  refine tMt_of (n := 0) rfl (Nat.le_of_ble_eq_true rfl) hg ?_
  intro p e s m below meth c C htab hin
  refine zx_lv [0, 1] [(0, .ref (a0)), (1, .int (p0))] rfl ?_
  refine zx_iload_n C dX5_ownerOf_0 1 rfl ?_
  refine zx_if_lt C 12 dX5_ownerOf_1 (by decide) (fun c1 => ?_) (fun c1 => ?_)
  · replace hm := ip_e hm c1
    exact zx_lv [] [] rfl (j_X5_ownerOf_12 C htab hin    hm)
  · replace hm := in_e hm c1
    refine zx_iload_n C dX5_ownerOf_4 1 rfl ?_
    refine zx_aload_n C dX5_ownerOf_5 0 rfl ?_
    obtain ⟨k2, i3, hm⟩ := ckO_e hm
    refine zx_get (j := 7) C tC_5 k2 i3 ⟨by decide, Or.inl W_1_104⟩ dX5_ownerOf_6 (.int (tI (σ) (a0) 7)) rfl ?_
    refine zx_icmp_lt C 16 dX5_ownerOf_9 (by decide) (fun c4 => ?_) (fun c4 => ?_)
    · replace hm := ip_e hm c4
      refine zx_aload_n C dX5_ownerOf_16 0 rfl ?_
      obtain ⟨a5, h6, hm⟩ := osm_e hm
      refine zx_get (j := 3) C tC_5 k2 i3 ⟨by decide, Or.inl W_1_99⟩ dX5_ownerOf_17 (.ref a5) (rf_s h6) ?_
      refine zx_iload_n C dX5_ownerOf_20 1 rfl ?_
      obtain ⟨n9, k7, i8, hm⟩ := ckR_e hm
      obtain ⟨h10, hm⟩ := ckI_e hm
      refine zx_bald C k7 i8 h10 dX5_ownerOf_21 ?_
      exact zx_lv [] [] rfl (j_X5_ownerOf_22 C htab hin    hm)
    · replace hm := in_e hm c4
      exact zx_lv [] [] rfl (j_X5_ownerOf_12 C htab hin    hm)
abbrev cX5_isTouched : ByteArray := prog_7_method_9_code
def yX5_isTouched : MethodName := ⟨"SyncTree$Space", "isTouched", "(I)Z"⟩
theorem Y_X5_isTouched : tY yX5_isTouched cX5_isTouched 2 (some .boolean) 1 := ⟨W_4_60, W_1_3, ⟨by decide +kernel, by decide +kernel⟩, by decide +kernel⟩
theorem dX5_isTouched_0 : decode cX5_isTouched 0 = .ok (.iload_n 1, 1) := by decide +kernel
theorem dX5_isTouched_1 : decode cX5_isTouched 1 = .ok (.ifCond .le 24, 3) := by decide +kernel
theorem dX5_isTouched_4 : decode cX5_isTouched 4 = .ok (.iload_n 1, 1) := by decide +kernel
theorem dX5_isTouched_5 : decode cX5_isTouched 5 = .ok (.aload_n 0, 1) := by decide +kernel
theorem dX5_isTouched_6 : decode cX5_isTouched 6 = .ok (.getfield 48, 3) := by decide +kernel
theorem dX5_isTouched_9 : decode cX5_isTouched 9 = .ok (.if_icmp .ge 16, 3) := by decide +kernel
theorem dX5_isTouched_12 : decode cX5_isTouched 12 = .ok (.aload_n 0, 1) := by decide +kernel
theorem dX5_isTouched_13 : decode cX5_isTouched 13 = .ok (.getfield 27, 3) := by decide +kernel
theorem dX5_isTouched_16 : decode cX5_isTouched 16 = .ok (.iload_n 1, 1) := by decide +kernel
theorem dX5_isTouched_17 : decode cX5_isTouched 17 = .ok (.baload, 1) := by decide +kernel
theorem dX5_isTouched_18 : decode cX5_isTouched 18 = .ok (.ifCond .eq 7, 3) := by decide +kernel
theorem dX5_isTouched_21 : decode cX5_isTouched 21 = .ok (.iconst 1, 1) := by decide +kernel
theorem dX5_isTouched_22 : decode cX5_isTouched 22 = .ok (.goto 4, 3) := by decide +kernel
theorem dX5_isTouched_25 : decode cX5_isTouched 25 = .ok (.iconst 0, 1) := by decide +kernel
theorem dX5_isTouched_26 : decode cX5_isTouched 26 = .ok (.ireturn, 1) := by decide +kernel
def J_X5_isTouched_26 (b0 fu : Nat)  (s0 : Int32) (σ : tM) : Option ((Int32) × tM) := ckZ (s0) (some (s0, σ))
def J_X5_isTouched_25 (b0 fu : Nat)   (σ : tM) : Option ((Int32) × tM) := J_X5_isTouched_26 b0 fu   (0) (σ)
def m_X5_isTouched (b0 fu : Nat) (a0 : Nat) (p0 : Int32) (σ : tM) : Option ((Int32) × tM) := grw σ (if (p0) ≤ (0) then J_X5_isTouched_25 b0 fu    (σ) else ckO b0 (σ) (a0) 5 (if (tI (σ) (a0) 7) ≤ (p0) then J_X5_isTouched_25 b0 fu    (σ) else osm (tA (σ) (a0) 4) (fun a6 => ckR b0 (σ) (a6) 1 (fun n10 => ckI (p0) (n10) (if (tI (σ) (a6) ((p0).toNatClampNeg)) = (0) then J_X5_isTouched_25 b0 fu    (σ) else J_X5_isTouched_26 b0 fu   (1) (σ))))))
set_option maxRecDepth 100000 in
set_option maxHeartbeats 1000000 in
theorem j_X5_isTouched_26 {p : Program} {l : Launch} {e : Env} {s : State} {m : MethodId} {args : Array Value} {below : List Frame} {meth : Method} {c : Code} {D : va_G} {aC : Nat → ClassId} {b0 fu : Nat} {σ0 τ : tM} {v : Int32}  (C : tCx p s m args meth c yX5_isTouched.cls cX5_isTouched 2 (some .boolean) D aC b0 σ0) (htab : ∀ x ∈ c.exceptionTable.toList, False) (hin : meth.name = yX5_isTouched.name)  {s0 : Int32} {σ : tM} (hm : J_X5_isTouched_26 b0 fu  s0 σ = some (v, τ)) : tX p l e s m args below meth c 2 0 0 D aC b0 σ0 (.inl (some (.int v))) τ 26 [] [.int (s0)] σ := by
  unfold J_X5_isTouched_26 at hm
  obtain ⟨h2, hm⟩ := ckZ_e hm
  obtain ⟨rfl, rfl⟩ := ret_e hm
  exact zx_zret C rfl h2 rfl rfl dX5_isTouched_26
set_option maxRecDepth 100000 in
set_option maxHeartbeats 1000000 in
theorem j_X5_isTouched_25 {p : Program} {l : Launch} {e : Env} {s : State} {m : MethodId} {args : Array Value} {below : List Frame} {meth : Method} {c : Code} {D : va_G} {aC : Nat → ClassId} {b0 fu : Nat} {σ0 τ : tM} {v : Int32}  (C : tCx p s m args meth c yX5_isTouched.cls cX5_isTouched 2 (some .boolean) D aC b0 σ0) (htab : ∀ x ∈ c.exceptionTable.toList, False) (hin : meth.name = yX5_isTouched.name)   {σ : tM} (hm : J_X5_isTouched_25 b0 fu   σ = some (v, τ)) : tX p l e s m args below meth c 2 0 0 D aC b0 σ0 (.inl (some (.int v))) τ 25 [] [] σ := by
  unfold J_X5_isTouched_25 at hm
  refine zx_iconst (v := 0) C dX5_isTouched_25 (by decide) ?_
  exact zx_lv [] [] rfl (j_X5_isTouched_26 C htab hin    hm)
set_option maxRecDepth 100000 in
set_option maxHeartbeats 1000000 in
theorem c_X5_isTouched {l : Launch} {D : va_G} {aC : Nat → ClassId} {b0 fu : Nat} {a0 : Nat} {p0 : Int32} {σ τ : tM} {v : Int32} (hm : m_X5_isTouched b0 fu a0 p0 σ = some (v, τ)) : tMt l D aC b0 yX5_isTouched (Cond.code yX5_isTouched cX5_isTouched 2 (some .boolean)) 0 0 [.ref (a0), .int (p0)] σ (.inl (some (.int v))) τ := by
  unfold m_X5_isTouched at hm
  obtain ⟨hg, hm⟩ := grw_e hm
  refine tMt_of (n := 0) rfl (Nat.le_of_ble_eq_true rfl) hg ?_
  intro p e s m below meth c C htab hin
  refine zx_lv [0, 1] [(0, .ref (a0)), (1, .int (p0))] rfl ?_
  refine zx_iload_n C dX5_isTouched_0 1 rfl ?_
  refine zx_if_le C 25 dX5_isTouched_1 (by decide) (fun c1 => ?_) (fun c1 => ?_)
  · replace hm := ip_e hm c1
    exact zx_lv [] [] rfl (j_X5_isTouched_25 C htab hin    hm)
  · replace hm := in_e hm c1
    refine zx_iload_n C dX5_isTouched_4 1 rfl ?_
    refine zx_aload_n C dX5_isTouched_5 0 rfl ?_
    obtain ⟨k3, i4, hm⟩ := ckO_e hm
    refine zx_get (j := 7) C tC_5 k3 i4 ⟨by decide, Or.inl W_1_104⟩ dX5_isTouched_6 (.int (tI (σ) (a0) 7)) rfl ?_
    refine zx_icmp_ge C 25 dX5_isTouched_9 (by decide) (fun c5 => ?_) (fun c5 => ?_)
    · replace hm := ip_e hm c5
      exact zx_lv [] [] rfl (j_X5_isTouched_25 C htab hin    hm)
    · replace hm := in_e hm c5
      refine zx_aload_n C dX5_isTouched_12 0 rfl ?_
      obtain ⟨a6, h7, hm⟩ := osm_e hm
      refine zx_get (j := 4) C tC_5 k3 i4 ⟨by decide, Or.inl W_1_100⟩ dX5_isTouched_13 (.ref a6) (rf_s h7) ?_
      refine zx_iload_n C dX5_isTouched_16 1 rfl ?_
      obtain ⟨n10, k8, i9, hm⟩ := ckR_e hm
      obtain ⟨h11, hm⟩ := ckI_e hm
      refine zx_bald C k8 i9 h11 dX5_isTouched_17 ?_
      refine zx_if_eq C 25 dX5_isTouched_18 (by decide) (fun c12 => ?_) (fun c12 => ?_)
      · replace hm := ip_e hm c12
        exact zx_lv [] [] rfl (j_X5_isTouched_25 C htab hin    hm)
      · replace hm := in_e hm c12
        refine zx_iconst (v := 1) C dX5_isTouched_21 (by decide) ?_
        refine zx_goto C 26 dX5_isTouched_22 (by decide) ?_
        exact zx_lv [] [] rfl (j_X5_isTouched_26 C htab hin    hm)
abbrev cX5_isRevoked : ByteArray := prog_7_method_10_code
def yX5_isRevoked : MethodName := ⟨"SyncTree$Space", "isRevoked", "(I)Z"⟩
theorem Y_X5_isRevoked : tY yX5_isRevoked cX5_isRevoked 2 (some .boolean) 1 := ⟨W_4_64, W_1_3, ⟨by decide +kernel, by decide +kernel⟩, by decide +kernel⟩
theorem dX5_isRevoked_0 : decode cX5_isRevoked 0 = .ok (.iload_n 1, 1) := by decide +kernel
theorem dX5_isRevoked_1 : decode cX5_isRevoked 1 = .ok (.ifCond .le 24, 3) := by decide +kernel
theorem dX5_isRevoked_4 : decode cX5_isRevoked 4 = .ok (.iload_n 1, 1) := by decide +kernel
theorem dX5_isRevoked_5 : decode cX5_isRevoked 5 = .ok (.aload_n 0, 1) := by decide +kernel
theorem dX5_isRevoked_6 : decode cX5_isRevoked 6 = .ok (.getfield 48, 3) := by decide +kernel
theorem dX5_isRevoked_9 : decode cX5_isRevoked 9 = .ok (.if_icmp .ge 16, 3) := by decide +kernel
theorem dX5_isRevoked_12 : decode cX5_isRevoked 12 = .ok (.aload_n 0, 1) := by decide +kernel
theorem dX5_isRevoked_13 : decode cX5_isRevoked 13 = .ok (.getfield 30, 3) := by decide +kernel
theorem dX5_isRevoked_16 : decode cX5_isRevoked 16 = .ok (.iload_n 1, 1) := by decide +kernel
theorem dX5_isRevoked_17 : decode cX5_isRevoked 17 = .ok (.baload, 1) := by decide +kernel
theorem dX5_isRevoked_18 : decode cX5_isRevoked 18 = .ok (.ifCond .eq 7, 3) := by decide +kernel
theorem dX5_isRevoked_21 : decode cX5_isRevoked 21 = .ok (.iconst 1, 1) := by decide +kernel
theorem dX5_isRevoked_22 : decode cX5_isRevoked 22 = .ok (.goto 4, 3) := by decide +kernel
theorem dX5_isRevoked_25 : decode cX5_isRevoked 25 = .ok (.iconst 0, 1) := by decide +kernel
theorem dX5_isRevoked_26 : decode cX5_isRevoked 26 = .ok (.ireturn, 1) := by decide +kernel
def J_X5_isRevoked_26 (b0 fu : Nat)  (s0 : Int32) (σ : tM) : Option ((Int32) × tM) := ckZ (s0) (some (s0, σ))
def J_X5_isRevoked_25 (b0 fu : Nat)   (σ : tM) : Option ((Int32) × tM) := J_X5_isRevoked_26 b0 fu   (0) (σ)
def m_X5_isRevoked (b0 fu : Nat) (a0 : Nat) (p0 : Int32) (σ : tM) : Option ((Int32) × tM) := grw σ (if (p0) ≤ (0) then J_X5_isRevoked_25 b0 fu    (σ) else ckO b0 (σ) (a0) 5 (if (tI (σ) (a0) 7) ≤ (p0) then J_X5_isRevoked_25 b0 fu    (σ) else osm (tA (σ) (a0) 5) (fun a6 => ckR b0 (σ) (a6) 1 (fun n10 => ckI (p0) (n10) (if (tI (σ) (a6) ((p0).toNatClampNeg)) = (0) then J_X5_isRevoked_25 b0 fu    (σ) else J_X5_isRevoked_26 b0 fu   (1) (σ))))))
set_option maxRecDepth 100000 in
set_option maxHeartbeats 1000000 in
theorem j_X5_isRevoked_26 {p : Program} {l : Launch} {e : Env} {s : State} {m : MethodId} {args : Array Value} {below : List Frame} {meth : Method} {c : Code} {D : va_G} {aC : Nat → ClassId} {b0 fu : Nat} {σ0 τ : tM} {v : Int32}  (C : tCx p s m args meth c yX5_isRevoked.cls cX5_isRevoked 2 (some .boolean) D aC b0 σ0) (htab : ∀ x ∈ c.exceptionTable.toList, False) (hin : meth.name = yX5_isRevoked.name)  {s0 : Int32} {σ : tM} (hm : J_X5_isRevoked_26 b0 fu  s0 σ = some (v, τ)) : tX p l e s m args below meth c 2 0 0 D aC b0 σ0 (.inl (some (.int v))) τ 26 [] [.int (s0)] σ := by
  unfold J_X5_isRevoked_26 at hm
  obtain ⟨h2, hm⟩ := ckZ_e hm
  obtain ⟨rfl, rfl⟩ := ret_e hm
  exact zx_zret C rfl h2 rfl rfl dX5_isRevoked_26
set_option maxRecDepth 100000 in
set_option maxHeartbeats 1000000 in
theorem j_X5_isRevoked_25 {p : Program} {l : Launch} {e : Env} {s : State} {m : MethodId} {args : Array Value} {below : List Frame} {meth : Method} {c : Code} {D : va_G} {aC : Nat → ClassId} {b0 fu : Nat} {σ0 τ : tM} {v : Int32}  (C : tCx p s m args meth c yX5_isRevoked.cls cX5_isRevoked 2 (some .boolean) D aC b0 σ0) (htab : ∀ x ∈ c.exceptionTable.toList, False) (hin : meth.name = yX5_isRevoked.name)   {σ : tM} (hm : J_X5_isRevoked_25 b0 fu   σ = some (v, τ)) : tX p l e s m args below meth c 2 0 0 D aC b0 σ0 (.inl (some (.int v))) τ 25 [] [] σ := by
  unfold J_X5_isRevoked_25 at hm
  refine zx_iconst (v := 0) C dX5_isRevoked_25 (by decide) ?_
  exact zx_lv [] [] rfl (j_X5_isRevoked_26 C htab hin    hm)
set_option maxRecDepth 100000 in
set_option maxHeartbeats 1000000 in
theorem c_X5_isRevoked {l : Launch} {D : va_G} {aC : Nat → ClassId} {b0 fu : Nat} {a0 : Nat} {p0 : Int32} {σ τ : tM} {v : Int32} (hm : m_X5_isRevoked b0 fu a0 p0 σ = some (v, τ)) : tMt l D aC b0 yX5_isRevoked (Cond.code yX5_isRevoked cX5_isRevoked 2 (some .boolean)) 0 0 [.ref (a0), .int (p0)] σ (.inl (some (.int v))) τ := by
  unfold m_X5_isRevoked at hm
  obtain ⟨hg, hm⟩ := grw_e hm
  refine tMt_of (n := 0) rfl (Nat.le_of_ble_eq_true rfl) hg ?_
  intro p e s m below meth c C htab hin
  refine zx_lv [0, 1] [(0, .ref (a0)), (1, .int (p0))] rfl ?_
  refine zx_iload_n C dX5_isRevoked_0 1 rfl ?_
  refine zx_if_le C 25 dX5_isRevoked_1 (by decide) (fun c1 => ?_) (fun c1 => ?_)
  · replace hm := ip_e hm c1
    exact zx_lv [] [] rfl (j_X5_isRevoked_25 C htab hin    hm)
  · replace hm := in_e hm c1
    refine zx_iload_n C dX5_isRevoked_4 1 rfl ?_
    refine zx_aload_n C dX5_isRevoked_5 0 rfl ?_
    obtain ⟨k3, i4, hm⟩ := ckO_e hm
    refine zx_get (j := 7) C tC_5 k3 i4 ⟨by decide, Or.inl W_1_104⟩ dX5_isRevoked_6 (.int (tI (σ) (a0) 7)) rfl ?_
    refine zx_icmp_ge C 25 dX5_isRevoked_9 (by decide) (fun c5 => ?_) (fun c5 => ?_)
    · replace hm := ip_e hm c5
      exact zx_lv [] [] rfl (j_X5_isRevoked_25 C htab hin    hm)
    · replace hm := in_e hm c5
      refine zx_aload_n C dX5_isRevoked_12 0 rfl ?_
      obtain ⟨a6, h7, hm⟩ := osm_e hm
      refine zx_get (j := 5) C tC_5 k3 i4 ⟨by decide, Or.inl W_1_101⟩ dX5_isRevoked_13 (.ref a6) (rf_s h7) ?_
      refine zx_iload_n C dX5_isRevoked_16 1 rfl ?_
      obtain ⟨n10, k8, i9, hm⟩ := ckR_e hm
      obtain ⟨h11, hm⟩ := ckI_e hm
      refine zx_bald C k8 i9 h11 dX5_isRevoked_17 ?_
      refine zx_if_eq C 25 dX5_isRevoked_18 (by decide) (fun c12 => ?_) (fun c12 => ?_)
      · replace hm := ip_e hm c12
        exact zx_lv [] [] rfl (j_X5_isRevoked_25 C htab hin    hm)
      · replace hm := in_e hm c12
        refine zx_iconst (v := 1) C dX5_isRevoked_21 (by decide) ?_
        refine zx_goto C 26 dX5_isRevoked_22 (by decide) ?_
        exact zx_lv [] [] rfl (j_X5_isRevoked_26 C htab hin    hm)
abbrev cX5_isDirty : ByteArray := prog_7_method_11_code
def yX5_isDirty : MethodName := ⟨"SyncTree$Space", "isDirty", "(I)Z"⟩
theorem Y_X5_isDirty : tY yX5_isDirty cX5_isDirty 2 (some .boolean) 1 := ⟨W_6_43, W_1_3, ⟨by decide +kernel, by decide +kernel⟩, by decide +kernel⟩
theorem dX5_isDirty_0 : decode cX5_isDirty 0 = .ok (.iload_n 1, 1) := by decide +kernel
theorem dX5_isDirty_1 : decode cX5_isDirty 1 = .ok (.ifCond .le 24, 3) := by decide +kernel
theorem dX5_isDirty_4 : decode cX5_isDirty 4 = .ok (.iload_n 1, 1) := by decide +kernel
theorem dX5_isDirty_5 : decode cX5_isDirty 5 = .ok (.aload_n 0, 1) := by decide +kernel
theorem dX5_isDirty_6 : decode cX5_isDirty 6 = .ok (.getfield 48, 3) := by decide +kernel
theorem dX5_isDirty_9 : decode cX5_isDirty 9 = .ok (.if_icmp .ge 16, 3) := by decide +kernel
theorem dX5_isDirty_12 : decode cX5_isDirty 12 = .ok (.aload_n 0, 1) := by decide +kernel
theorem dX5_isDirty_13 : decode cX5_isDirty 13 = .ok (.getfield 33, 3) := by decide +kernel
theorem dX5_isDirty_16 : decode cX5_isDirty 16 = .ok (.iload_n 1, 1) := by decide +kernel
theorem dX5_isDirty_17 : decode cX5_isDirty 17 = .ok (.baload, 1) := by decide +kernel
theorem dX5_isDirty_18 : decode cX5_isDirty 18 = .ok (.ifCond .eq 7, 3) := by decide +kernel
theorem dX5_isDirty_21 : decode cX5_isDirty 21 = .ok (.iconst 1, 1) := by decide +kernel
theorem dX5_isDirty_22 : decode cX5_isDirty 22 = .ok (.goto 4, 3) := by decide +kernel
theorem dX5_isDirty_25 : decode cX5_isDirty 25 = .ok (.iconst 0, 1) := by decide +kernel
theorem dX5_isDirty_26 : decode cX5_isDirty 26 = .ok (.ireturn, 1) := by decide +kernel
def J_X5_isDirty_26 (b0 fu : Nat)  (s0 : Int32) (σ : tM) : Option ((Int32) × tM) := ckZ (s0) (some (s0, σ))
def J_X5_isDirty_25 (b0 fu : Nat)   (σ : tM) : Option ((Int32) × tM) := J_X5_isDirty_26 b0 fu   (0) (σ)
def m_X5_isDirty (b0 fu : Nat) (a0 : Nat) (p0 : Int32) (σ : tM) : Option ((Int32) × tM) := grw σ (if (p0) ≤ (0) then J_X5_isDirty_25 b0 fu    (σ) else ckO b0 (σ) (a0) 5 (if (tI (σ) (a0) 7) ≤ (p0) then J_X5_isDirty_25 b0 fu    (σ) else osm (tA (σ) (a0) 6) (fun a6 => ckR b0 (σ) (a6) 1 (fun n10 => ckI (p0) (n10) (if (tI (σ) (a6) ((p0).toNatClampNeg)) = (0) then J_X5_isDirty_25 b0 fu    (σ) else J_X5_isDirty_26 b0 fu   (1) (σ))))))
set_option maxRecDepth 100000 in
set_option maxHeartbeats 1000000 in
theorem j_X5_isDirty_26 {p : Program} {l : Launch} {e : Env} {s : State} {m : MethodId} {args : Array Value} {below : List Frame} {meth : Method} {c : Code} {D : va_G} {aC : Nat → ClassId} {b0 fu : Nat} {σ0 τ : tM} {v : Int32}  (C : tCx p s m args meth c yX5_isDirty.cls cX5_isDirty 2 (some .boolean) D aC b0 σ0) (htab : ∀ x ∈ c.exceptionTable.toList, False) (hin : meth.name = yX5_isDirty.name)  {s0 : Int32} {σ : tM} (hm : J_X5_isDirty_26 b0 fu  s0 σ = some (v, τ)) : tX p l e s m args below meth c 2 0 0 D aC b0 σ0 (.inl (some (.int v))) τ 26 [] [.int (s0)] σ := by
  unfold J_X5_isDirty_26 at hm
  obtain ⟨h2, hm⟩ := ckZ_e hm
  obtain ⟨rfl, rfl⟩ := ret_e hm
  exact zx_zret C rfl h2 rfl rfl dX5_isDirty_26
set_option maxRecDepth 100000 in
set_option maxHeartbeats 1000000 in
theorem j_X5_isDirty_25 {p : Program} {l : Launch} {e : Env} {s : State} {m : MethodId} {args : Array Value} {below : List Frame} {meth : Method} {c : Code} {D : va_G} {aC : Nat → ClassId} {b0 fu : Nat} {σ0 τ : tM} {v : Int32}  (C : tCx p s m args meth c yX5_isDirty.cls cX5_isDirty 2 (some .boolean) D aC b0 σ0) (htab : ∀ x ∈ c.exceptionTable.toList, False) (hin : meth.name = yX5_isDirty.name)   {σ : tM} (hm : J_X5_isDirty_25 b0 fu   σ = some (v, τ)) : tX p l e s m args below meth c 2 0 0 D aC b0 σ0 (.inl (some (.int v))) τ 25 [] [] σ := by
  unfold J_X5_isDirty_25 at hm
  refine zx_iconst (v := 0) C dX5_isDirty_25 (by decide) ?_
  exact zx_lv [] [] rfl (j_X5_isDirty_26 C htab hin    hm)
set_option maxRecDepth 100000 in
set_option maxHeartbeats 1000000 in
theorem c_X5_isDirty {l : Launch} {D : va_G} {aC : Nat → ClassId} {b0 fu : Nat} {a0 : Nat} {p0 : Int32} {σ τ : tM} {v : Int32} (hm : m_X5_isDirty b0 fu a0 p0 σ = some (v, τ)) : tMt l D aC b0 yX5_isDirty (Cond.code yX5_isDirty cX5_isDirty 2 (some .boolean)) 0 0 [.ref (a0), .int (p0)] σ (.inl (some (.int v))) τ := by
  unfold m_X5_isDirty at hm
  obtain ⟨hg, hm⟩ := grw_e hm
  refine tMt_of (n := 0) rfl (Nat.le_of_ble_eq_true rfl) hg ?_
  intro p e s m below meth c C htab hin
  refine zx_lv [0, 1] [(0, .ref (a0)), (1, .int (p0))] rfl ?_
  refine zx_iload_n C dX5_isDirty_0 1 rfl ?_
  refine zx_if_le C 25 dX5_isDirty_1 (by decide) (fun c1 => ?_) (fun c1 => ?_)
  · replace hm := ip_e hm c1
    exact zx_lv [] [] rfl (j_X5_isDirty_25 C htab hin    hm)
  · replace hm := in_e hm c1
    refine zx_iload_n C dX5_isDirty_4 1 rfl ?_
    refine zx_aload_n C dX5_isDirty_5 0 rfl ?_
    obtain ⟨k3, i4, hm⟩ := ckO_e hm
    refine zx_get (j := 7) C tC_5 k3 i4 ⟨by decide, Or.inl W_1_104⟩ dX5_isDirty_6 (.int (tI (σ) (a0) 7)) rfl ?_
    refine zx_icmp_ge C 25 dX5_isDirty_9 (by decide) (fun c5 => ?_) (fun c5 => ?_)
    · replace hm := ip_e hm c5
      exact zx_lv [] [] rfl (j_X5_isDirty_25 C htab hin    hm)
    · replace hm := in_e hm c5
      refine zx_aload_n C dX5_isDirty_12 0 rfl ?_
      obtain ⟨a6, h7, hm⟩ := osm_e hm
      refine zx_get (j := 6) C tC_5 k3 i4 ⟨by decide, Or.inl W_1_102⟩ dX5_isDirty_13 (.ref a6) (rf_s h7) ?_
      refine zx_iload_n C dX5_isDirty_16 1 rfl ?_
      obtain ⟨n10, k8, i9, hm⟩ := ckR_e hm
      obtain ⟨h11, hm⟩ := ckI_e hm
      refine zx_bald C k8 i9 h11 dX5_isDirty_17 ?_
      refine zx_if_eq C 25 dX5_isDirty_18 (by decide) (fun c12 => ?_) (fun c12 => ?_)
      · replace hm := ip_e hm c12
        exact zx_lv [] [] rfl (j_X5_isDirty_25 C htab hin    hm)
      · replace hm := in_e hm c12
        refine zx_iconst (v := 1) C dX5_isDirty_21 (by decide) ?_
        refine zx_goto C 26 dX5_isDirty_22 (by decide) ?_
        exact zx_lv [] [] rfl (j_X5_isDirty_26 C htab hin    hm)
abbrev cX5_word : ByteArray := prog_7_method_12_code
def yX5_word : MethodName := ⟨"SyncTree$Space", "word", "(II)J"⟩
theorem Y_X5_word : tY yX5_word cX5_word 3 (some .long) 2 := ⟨W_2_143, W_1_3, ⟨by decide +kernel, by decide +kernel⟩, by decide +kernel⟩
theorem dX5_word_0 : decode cX5_word 0 = .ok (.iload_n 1, 1) := by decide +kernel
theorem dX5_word_1 : decode cX5_word 1 = .ok (.ifCond .lt 21, 3) := by decide +kernel
theorem dX5_word_4 : decode cX5_word 4 = .ok (.iload_n 1, 1) := by decide +kernel
theorem dX5_word_5 : decode cX5_word 5 = .ok (.aload_n 0, 1) := by decide +kernel
theorem dX5_word_6 : decode cX5_word 6 = .ok (.getfield 48, 3) := by decide +kernel
theorem dX5_word_9 : decode cX5_word 9 = .ok (.if_icmp .ge 13, 3) := by decide +kernel
theorem dX5_word_12 : decode cX5_word 12 = .ok (.iload_n 2, 1) := by decide +kernel
theorem dX5_word_13 : decode cX5_word 13 = .ok (.ifCond .lt 9, 3) := by decide +kernel
theorem dX5_word_16 : decode cX5_word 16 = .ok (.iload_n 2, 1) := by decide +kernel
theorem dX5_word_17 : decode cX5_word 17 = .ok (.bipush 32, 2) := by decide +kernel
theorem dX5_word_19 : decode cX5_word 19 = .ok (.if_icmp .lt 7, 3) := by decide +kernel
theorem dX5_word_22 : decode cX5_word 22 = .ok (.lconst 0, 1) := by decide +kernel
theorem dX5_word_23 : decode cX5_word 23 = .ok (.goto 14, 3) := by decide +kernel
theorem dX5_word_26 : decode cX5_word 26 = .ok (.aload_n 0, 1) := by decide +kernel
theorem dX5_word_27 : decode cX5_word 27 = .ok (.getfield 10, 3) := by decide +kernel
theorem dX5_word_30 : decode cX5_word 30 = .ok (.iload_n 1, 1) := by decide +kernel
theorem dX5_word_31 : decode cX5_word 31 = .ok (.bipush 32, 2) := by decide +kernel
theorem dX5_word_33 : decode cX5_word 33 = .ok (.imul, 1) := by decide +kernel
theorem dX5_word_34 : decode cX5_word 34 = .ok (.iload_n 2, 1) := by decide +kernel
theorem dX5_word_35 : decode cX5_word 35 = .ok (.iadd, 1) := by decide +kernel
theorem dX5_word_36 : decode cX5_word 36 = .ok (.laload, 1) := by decide +kernel
theorem dX5_word_37 : decode cX5_word 37 = .ok (.lreturn, 1) := by decide +kernel
def J_X5_word_37 (b0 fu : Nat)  (s0 : Int64) (σ : tM) : Option ((Int64) × tM) := some (s0, σ)
def J_X5_word_22 (b0 fu : Nat)   (σ : tM) : Option ((Int64) × tM) := J_X5_word_37 b0 fu   (0) (σ)
def m_X5_word (b0 fu : Nat) (a0 : Nat) (p0 : Int32) (p1 : Int32) (σ : tM) : Option ((Int64) × tM) := grw σ (if (p0) < (0) then J_X5_word_22 b0 fu    (σ) else ckO b0 (σ) (a0) 5 (if (tI (σ) (a0) 7) ≤ (p0) then J_X5_word_22 b0 fu    (σ) else if (p1) < (0) then J_X5_word_22 b0 fu    (σ) else if (p1) < (32) then osm (tA (σ) (a0) 0) (fun a7 => ckR b0 (σ) (a7) 3 (fun n11 => ckI (((p0) * (32)) + (p1)) (n11) (J_X5_word_37 b0 fu   (tL (σ) (a7) ((((p0) * (32)) + (p1)).toNatClampNeg)) (σ)))) else J_X5_word_22 b0 fu    (σ)))
set_option maxRecDepth 100000 in
set_option maxHeartbeats 1000000 in
theorem j_X5_word_37 {p : Program} {l : Launch} {e : Env} {s : State} {m : MethodId} {args : Array Value} {below : List Frame} {meth : Method} {c : Code} {D : va_G} {aC : Nat → ClassId} {b0 fu : Nat} {σ0 τ : tM} {v : Int64}  (C : tCx p s m args meth c yX5_word.cls cX5_word 3 (some .long) D aC b0 σ0) (htab : ∀ x ∈ c.exceptionTable.toList, False) (hin : meth.name = yX5_word.name)  {s0 : Int64} {σ : tM} (hm : J_X5_word_37 b0 fu  s0 σ = some (v, τ)) : tX p l e s m args below meth c 3 0 0 D aC b0 σ0 (.inl (some (.long v))) τ 37 [] [.long (s0)] σ := by
  unfold J_X5_word_37 at hm
  obtain ⟨rfl, rfl⟩ := ret_e hm
  exact zx_lret C rfl rfl rfl dX5_word_37
set_option maxRecDepth 100000 in
set_option maxHeartbeats 1000000 in
theorem j_X5_word_22 {p : Program} {l : Launch} {e : Env} {s : State} {m : MethodId} {args : Array Value} {below : List Frame} {meth : Method} {c : Code} {D : va_G} {aC : Nat → ClassId} {b0 fu : Nat} {σ0 τ : tM} {v : Int64}  (C : tCx p s m args meth c yX5_word.cls cX5_word 3 (some .long) D aC b0 σ0) (htab : ∀ x ∈ c.exceptionTable.toList, False) (hin : meth.name = yX5_word.name)   {σ : tM} (hm : J_X5_word_22 b0 fu   σ = some (v, τ)) : tX p l e s m args below meth c 3 0 0 D aC b0 σ0 (.inl (some (.long v))) τ 22 [] [] σ := by
  unfold J_X5_word_22 at hm
  refine zx_lconst (v := 0) C dX5_word_22 (by decide) ?_
  refine zx_goto C 37 dX5_word_23 (by decide) ?_
  exact zx_lv [] [] rfl (j_X5_word_37 C htab hin    hm)
set_option maxRecDepth 100000 in
set_option maxHeartbeats 1000000 in
theorem c_X5_word {l : Launch} {D : va_G} {aC : Nat → ClassId} {b0 fu : Nat} {a0 : Nat} {p0 : Int32} {p1 : Int32} {σ τ : tM} {v : Int64} (hm : m_X5_word b0 fu a0 p0 p1 σ = some (v, τ)) : tMt l D aC b0 yX5_word (Cond.code yX5_word cX5_word 3 (some .long)) 0 0 [.ref (a0), .int (p0), .int (p1)] σ (.inl (some (.long v))) τ := by
  unfold m_X5_word at hm
  obtain ⟨hg, hm⟩ := grw_e hm
  refine tMt_of (n := 0) rfl (Nat.le_of_ble_eq_true rfl) hg ?_
  intro p e s m below meth c C htab hin
  refine zx_lv [0, 1, 2] [(0, .ref (a0)), (1, .int (p0)), (2, .int (p1))] rfl ?_
  refine zx_iload_n C dX5_word_0 1 rfl ?_
  refine zx_if_lt C 22 dX5_word_1 (by decide) (fun c1 => ?_) (fun c1 => ?_)
  · replace hm := ip_e hm c1
    exact zx_lv [] [] rfl (j_X5_word_22 C htab hin    hm)
  · replace hm := in_e hm c1
    refine zx_iload_n C dX5_word_4 1 rfl ?_
    refine zx_aload_n C dX5_word_5 0 rfl ?_
    obtain ⟨k2, i3, hm⟩ := ckO_e hm
    refine zx_get (j := 7) C tC_5 k2 i3 ⟨by decide, Or.inl W_1_104⟩ dX5_word_6 (.int (tI (σ) (a0) 7)) rfl ?_
    refine zx_icmp_ge C 22 dX5_word_9 (by decide) (fun c4 => ?_) (fun c4 => ?_)
    · replace hm := ip_e hm c4
      exact zx_lv [] [] rfl (j_X5_word_22 C htab hin    hm)
    · replace hm := in_e hm c4
      refine zx_iload_n C dX5_word_12 2 rfl ?_
      refine zx_if_lt C 22 dX5_word_13 (by decide) (fun c5 => ?_) (fun c5 => ?_)
      · replace hm := ip_e hm c5
        exact zx_lv [] [] rfl (j_X5_word_22 C htab hin    hm)
      · replace hm := in_e hm c5
        refine zx_iload_n C dX5_word_16 2 rfl ?_
        refine zx_bipush (v := 32) C dX5_word_17 (by decide) ?_
        refine zx_icmp_lt C 26 dX5_word_19 (by decide) (fun c6 => ?_) (fun c6 => ?_)
        · replace hm := ip_e hm c6
          refine zx_aload_n C dX5_word_26 0 rfl ?_
          obtain ⟨a7, h8, hm⟩ := osm_e hm
          refine zx_get (j := 0) C tC_5 k2 i3 ⟨by decide, Or.inl W_1_94⟩ dX5_word_27 (.ref a7) (rf_s h8) ?_
          refine zx_iload_n C dX5_word_30 1 rfl ?_
          refine zx_bipush (v := 32) C dX5_word_31 (by decide) ?_
          refine zx_imul C dX5_word_33 ?_
          refine zx_iload_n C dX5_word_34 2 rfl ?_
          refine zx_iadd C dX5_word_35 ?_
          obtain ⟨n11, k9, i10, hm⟩ := ckR_e hm
          obtain ⟨h12, hm⟩ := ckI_e hm
          refine zx_lald C k9 i10 h12 dX5_word_36 ?_
          exact zx_lv [] [] rfl (j_X5_word_37 C htab hin    hm)
        · replace hm := in_e hm c6
          exact zx_lv [] [] rfl (j_X5_word_22 C htab hin    hm)
abbrev cX5_octet : ByteArray := prog_7_method_14_code
def yX5_octet : MethodName := ⟨"SyncTree$Space", "octet", "(II)I"⟩
theorem Y_X5_octet : tY yX5_octet cX5_octet 3 (some .int) 2 := ⟨W_4_123, W_1_3, ⟨by decide +kernel, by decide +kernel⟩, by decide +kernel⟩
theorem dX5_octet_0 : decode cX5_octet 0 = .ok (.iload_n 1, 1) := by decide +kernel
theorem dX5_octet_1 : decode cX5_octet 1 = .ok (.ifCond .lt 22, 3) := by decide +kernel
theorem dX5_octet_4 : decode cX5_octet 4 = .ok (.iload_n 1, 1) := by decide +kernel
theorem dX5_octet_5 : decode cX5_octet 5 = .ok (.aload_n 0, 1) := by decide +kernel
theorem dX5_octet_6 : decode cX5_octet 6 = .ok (.getfield 48, 3) := by decide +kernel
theorem dX5_octet_9 : decode cX5_octet 9 = .ok (.if_icmp .ge 14, 3) := by decide +kernel
theorem dX5_octet_12 : decode cX5_octet 12 = .ok (.iload_n 2, 1) := by decide +kernel
theorem dX5_octet_13 : decode cX5_octet 13 = .ok (.ifCond .lt 10, 3) := by decide +kernel
theorem dX5_octet_16 : decode cX5_octet 16 = .ok (.iload_n 2, 1) := by decide +kernel
theorem dX5_octet_17 : decode cX5_octet 17 = .ok (.sipush 256, 3) := by decide +kernel
theorem dX5_octet_20 : decode cX5_octet 20 = .ok (.if_icmp .lt 5, 3) := by decide +kernel
theorem dX5_octet_23 : decode cX5_octet 23 = .ok (.iconst 0, 1) := by decide +kernel
theorem dX5_octet_24 : decode cX5_octet 24 = .ok (.ireturn, 1) := by decide +kernel
theorem dX5_octet_25 : decode cX5_octet 25 = .ok (.aload_n 0, 1) := by decide +kernel
theorem dX5_octet_26 : decode cX5_octet 26 = .ok (.getfield 10, 3) := by decide +kernel
theorem dX5_octet_29 : decode cX5_octet 29 = .ok (.iload_n 1, 1) := by decide +kernel
theorem dX5_octet_30 : decode cX5_octet 30 = .ok (.bipush 32, 2) := by decide +kernel
theorem dX5_octet_32 : decode cX5_octet 32 = .ok (.imul, 1) := by decide +kernel
theorem dX5_octet_33 : decode cX5_octet 33 = .ok (.iload_n 2, 1) := by decide +kernel
theorem dX5_octet_34 : decode cX5_octet 34 = .ok (.iconst 3, 1) := by decide +kernel
theorem dX5_octet_35 : decode cX5_octet 35 = .ok (.ishr, 1) := by decide +kernel
theorem dX5_octet_36 : decode cX5_octet 36 = .ok (.iadd, 1) := by decide +kernel
theorem dX5_octet_37 : decode cX5_octet 37 = .ok (.laload, 1) := by decide +kernel
theorem dX5_octet_38 : decode cX5_octet 38 = .ok (.iload_n 2, 1) := by decide +kernel
theorem dX5_octet_39 : decode cX5_octet 39 = .ok (.bipush 7, 2) := by decide +kernel
theorem dX5_octet_41 : decode cX5_octet 41 = .ok (.iand, 1) := by decide +kernel
theorem dX5_octet_42 : decode cX5_octet 42 = .ok (.iconst 3, 1) := by decide +kernel
theorem dX5_octet_43 : decode cX5_octet 43 = .ok (.ishl, 1) := by decide +kernel
theorem dX5_octet_44 : decode cX5_octet 44 = .ok (.lushr, 1) := by decide +kernel
theorem dX5_octet_45 : decode cX5_octet 45 = .ok (.l2i, 1) := by decide +kernel
theorem dX5_octet_46 : decode cX5_octet 46 = .ok (.sipush 255, 3) := by decide +kernel
theorem dX5_octet_49 : decode cX5_octet 49 = .ok (.iand, 1) := by decide +kernel
theorem dX5_octet_50 : decode cX5_octet 50 = .ok (.ireturn, 1) := by decide +kernel
def J_X5_octet_23 (b0 fu : Nat)   (σ : tM) : Option ((Int32) × tM) := some (0, σ)
def m_X5_octet (b0 fu : Nat) (a0 : Nat) (p0 : Int32) (p1 : Int32) (σ : tM) : Option ((Int32) × tM) := grw σ (if (p0) < (0) then J_X5_octet_23 b0 fu    (σ) else ckO b0 (σ) (a0) 5 (if (tI (σ) (a0) 7) ≤ (p0) then J_X5_octet_23 b0 fu    (σ) else if (p1) < (0) then J_X5_octet_23 b0 fu    (σ) else if (p1) < (256) then osm (tA (σ) (a0) 0) (fun a7 => ckR b0 (σ) (a7) 3 (fun n11 => ckI (((p0) * (32)) + ((p1) >>> (((3 : Int32)) &&& 31))) (n11) (some (((((tL (σ) (a7) ((((p0) * (32)) + ((p1) >>> (((3 : Int32)) &&& 31))).toNatClampNeg)).toUInt64 >>> ((((p1) &&& (7)) <<< (((3 : Int32)) &&& 31)).toInt64.toUInt64 &&& Int64.toUInt64 63)).toInt64).toInt32) &&& (255), σ)))) else J_X5_octet_23 b0 fu    (σ)))
set_option maxRecDepth 100000 in
set_option maxHeartbeats 1000000 in
theorem j_X5_octet_23 {p : Program} {l : Launch} {e : Env} {s : State} {m : MethodId} {args : Array Value} {below : List Frame} {meth : Method} {c : Code} {D : va_G} {aC : Nat → ClassId} {b0 fu : Nat} {σ0 τ : tM} {v : Int32}  (C : tCx p s m args meth c yX5_octet.cls cX5_octet 3 (some .int) D aC b0 σ0) (htab : ∀ x ∈ c.exceptionTable.toList, False) (hin : meth.name = yX5_octet.name)   {σ : tM} (hm : J_X5_octet_23 b0 fu   σ = some (v, τ)) : tX p l e s m args below meth c 3 0 0 D aC b0 σ0 (.inl (some (.int v))) τ 23 [] [] σ := by
  unfold J_X5_octet_23 at hm
  refine zx_iconst (v := 0) C dX5_octet_23 (by decide) ?_
  obtain ⟨rfl, rfl⟩ := ret_e hm
  exact zx_iret C rfl rfl rfl dX5_octet_24
set_option maxRecDepth 100000 in
set_option maxHeartbeats 1000000 in
theorem c_X5_octet {l : Launch} {D : va_G} {aC : Nat → ClassId} {b0 fu : Nat} {a0 : Nat} {p0 : Int32} {p1 : Int32} {σ τ : tM} {v : Int32} (hm : m_X5_octet b0 fu a0 p0 p1 σ = some (v, τ)) : tMt l D aC b0 yX5_octet (Cond.code yX5_octet cX5_octet 3 (some .int)) 0 0 [.ref (a0), .int (p0), .int (p1)] σ (.inl (some (.int v))) τ := by
  unfold m_X5_octet at hm
  obtain ⟨hg, hm⟩ := grw_e hm
  refine tMt_of (n := 0) rfl (Nat.le_of_ble_eq_true rfl) hg ?_
  intro p e s m below meth c C htab hin
  refine zx_lv [0, 1, 2] [(0, .ref (a0)), (1, .int (p0)), (2, .int (p1))] rfl ?_
  refine zx_iload_n C dX5_octet_0 1 rfl ?_
  refine zx_if_lt C 23 dX5_octet_1 (by decide) (fun c1 => ?_) (fun c1 => ?_)
  · replace hm := ip_e hm c1
    exact zx_lv [] [] rfl (j_X5_octet_23 C htab hin    hm)
  · replace hm := in_e hm c1
    refine zx_iload_n C dX5_octet_4 1 rfl ?_
    refine zx_aload_n C dX5_octet_5 0 rfl ?_
    obtain ⟨k2, i3, hm⟩ := ckO_e hm
    refine zx_get (j := 7) C tC_5 k2 i3 ⟨by decide, Or.inl W_1_104⟩ dX5_octet_6 (.int (tI (σ) (a0) 7)) rfl ?_
    refine zx_icmp_ge C 23 dX5_octet_9 (by decide) (fun c4 => ?_) (fun c4 => ?_)
    · replace hm := ip_e hm c4
      exact zx_lv [] [] rfl (j_X5_octet_23 C htab hin    hm)
    · replace hm := in_e hm c4
      refine zx_iload_n C dX5_octet_12 2 rfl ?_
      refine zx_if_lt C 23 dX5_octet_13 (by decide) (fun c5 => ?_) (fun c5 => ?_)
      · replace hm := ip_e hm c5
        exact zx_lv [] [] rfl (j_X5_octet_23 C htab hin    hm)
      · replace hm := in_e hm c5
        refine zx_iload_n C dX5_octet_16 2 rfl ?_
        refine zx_sipush (v := 256) C dX5_octet_17 (by decide) ?_
        refine zx_icmp_lt C 25 dX5_octet_20 (by decide) (fun c6 => ?_) (fun c6 => ?_)
        · replace hm := ip_e hm c6
          refine zx_aload_n C dX5_octet_25 0 rfl ?_
          obtain ⟨a7, h8, hm⟩ := osm_e hm
          refine zx_get (j := 0) C tC_5 k2 i3 ⟨by decide, Or.inl W_1_94⟩ dX5_octet_26 (.ref a7) (rf_s h8) ?_
          refine zx_iload_n C dX5_octet_29 1 rfl ?_
          refine zx_bipush (v := 32) C dX5_octet_30 (by decide) ?_
          refine zx_imul C dX5_octet_32 ?_
          refine zx_iload_n C dX5_octet_33 2 rfl ?_
          refine zx_iconst (v := 3) C dX5_octet_34 (by decide) ?_
          refine zx_ishr C dX5_octet_35 ?_
          refine zx_iadd C dX5_octet_36 ?_
          obtain ⟨n11, k9, i10, hm⟩ := ckR_e hm
          obtain ⟨h12, hm⟩ := ckI_e hm
          refine zx_lald C k9 i10 h12 dX5_octet_37 ?_
          refine zx_iload_n C dX5_octet_38 2 rfl ?_
          refine zx_bipush (v := 7) C dX5_octet_39 (by decide) ?_
          refine zx_iand C dX5_octet_41 ?_
          refine zx_iconst (v := 3) C dX5_octet_42 (by decide) ?_
          refine zx_ishl C dX5_octet_43 ?_
          refine zx_lushr C dX5_octet_44 ?_
          refine zx_l2i C dX5_octet_45 ?_
          refine zx_sipush (v := 255) C dX5_octet_46 (by decide) ?_
          refine zx_iand C dX5_octet_49 ?_
          obtain ⟨rfl, rfl⟩ := ret_e hm
          exact zx_iret C rfl rfl rfl dX5_octet_50
        · replace hm := in_e hm c6
          exact zx_lv [] [] rfl (j_X5_octet_23 C htab hin    hm)
abbrev cX5_setOctet : ByteArray := prog_7_method_15_code
def yX5_setOctet : MethodName := ⟨"SyncTree$Space", "setOctet", "(III)V"⟩
theorem Y_X5_setOctet : tY yX5_setOctet cX5_setOctet 6 none 3 := ⟨W_4_183, W_1_3, ⟨by decide +kernel, by decide +kernel⟩, by decide +kernel⟩
theorem dX5_setOctet_0 : decode cX5_setOctet 0 = .ok (.iload_n 1, 1) := by decide +kernel
theorem dX5_setOctet_1 : decode cX5_setOctet 1 = .ok (.ifCond .le 22, 3) := by decide +kernel
theorem dX5_setOctet_4 : decode cX5_setOctet 4 = .ok (.iload_n 1, 1) := by decide +kernel
theorem dX5_setOctet_5 : decode cX5_setOctet 5 = .ok (.aload_n 0, 1) := by decide +kernel
theorem dX5_setOctet_6 : decode cX5_setOctet 6 = .ok (.getfield 48, 3) := by decide +kernel
theorem dX5_setOctet_9 : decode cX5_setOctet 9 = .ok (.if_icmp .ge 14, 3) := by decide +kernel
theorem dX5_setOctet_12 : decode cX5_setOctet 12 = .ok (.iload_n 2, 1) := by decide +kernel
theorem dX5_setOctet_13 : decode cX5_setOctet 13 = .ok (.ifCond .lt 10, 3) := by decide +kernel
theorem dX5_setOctet_16 : decode cX5_setOctet 16 = .ok (.iload_n 2, 1) := by decide +kernel
theorem dX5_setOctet_17 : decode cX5_setOctet 17 = .ok (.sipush 256, 3) := by decide +kernel
theorem dX5_setOctet_20 : decode cX5_setOctet 20 = .ok (.if_icmp .lt 4, 3) := by decide +kernel
theorem dX5_setOctet_23 : decode cX5_setOctet 23 = .ok (.return_, 1) := by decide +kernel
theorem dX5_setOctet_24 : decode cX5_setOctet 24 = .ok (.iload_n 1, 1) := by decide +kernel
theorem dX5_setOctet_25 : decode cX5_setOctet 25 = .ok (.bipush 32, 2) := by decide +kernel
theorem dX5_setOctet_27 : decode cX5_setOctet 27 = .ok (.imul, 1) := by decide +kernel
theorem dX5_setOctet_28 : decode cX5_setOctet 28 = .ok (.iload_n 2, 1) := by decide +kernel
theorem dX5_setOctet_29 : decode cX5_setOctet 29 = .ok (.iconst 3, 1) := by decide +kernel
theorem dX5_setOctet_30 : decode cX5_setOctet 30 = .ok (.ishr, 1) := by decide +kernel
theorem dX5_setOctet_31 : decode cX5_setOctet 31 = .ok (.iadd, 1) := by decide +kernel
theorem dX5_setOctet_32 : decode cX5_setOctet 32 = .ok (.istore 4, 2) := by decide +kernel
theorem dX5_setOctet_34 : decode cX5_setOctet 34 = .ok (.iload_n 2, 1) := by decide +kernel
theorem dX5_setOctet_35 : decode cX5_setOctet 35 = .ok (.bipush 7, 2) := by decide +kernel
theorem dX5_setOctet_37 : decode cX5_setOctet 37 = .ok (.iand, 1) := by decide +kernel
theorem dX5_setOctet_38 : decode cX5_setOctet 38 = .ok (.iconst 3, 1) := by decide +kernel
theorem dX5_setOctet_39 : decode cX5_setOctet 39 = .ok (.ishl, 1) := by decide +kernel
theorem dX5_setOctet_40 : decode cX5_setOctet 40 = .ok (.istore 5, 2) := by decide +kernel
theorem dX5_setOctet_42 : decode cX5_setOctet 42 = .ok (.aload_n 0, 1) := by decide +kernel
theorem dX5_setOctet_43 : decode cX5_setOctet 43 = .ok (.getfield 10, 3) := by decide +kernel
theorem dX5_setOctet_46 : decode cX5_setOctet 46 = .ok (.iload 4, 2) := by decide +kernel
theorem dX5_setOctet_48 : decode cX5_setOctet 48 = .ok (.aload_n 0, 1) := by decide +kernel
theorem dX5_setOctet_49 : decode cX5_setOctet 49 = .ok (.getfield 10, 3) := by decide +kernel
theorem dX5_setOctet_52 : decode cX5_setOctet 52 = .ok (.iload 4, 2) := by decide +kernel
theorem dX5_setOctet_54 : decode cX5_setOctet 54 = .ok (.laload, 1) := by decide +kernel
theorem dX5_setOctet_55 : decode cX5_setOctet 55 = .ok (.ldc2_w 100, 3) := by decide +kernel
theorem dX5_setOctet_58 : decode cX5_setOctet 58 = .ok (.iload 5, 2) := by decide +kernel
theorem dX5_setOctet_60 : decode cX5_setOctet 60 = .ok (.lshl, 1) := by decide +kernel
theorem dX5_setOctet_61 : decode cX5_setOctet 61 = .ok (.ldc2_w 102, 3) := by decide +kernel
theorem dX5_setOctet_64 : decode cX5_setOctet 64 = .ok (.lxor, 1) := by decide +kernel
theorem dX5_setOctet_65 : decode cX5_setOctet 65 = .ok (.land, 1) := by decide +kernel
theorem dX5_setOctet_66 : decode cX5_setOctet 66 = .ok (.iload_n 3, 1) := by decide +kernel
theorem dX5_setOctet_67 : decode cX5_setOctet 67 = .ok (.sipush 255, 3) := by decide +kernel
theorem dX5_setOctet_70 : decode cX5_setOctet 70 = .ok (.iand, 1) := by decide +kernel
theorem dX5_setOctet_71 : decode cX5_setOctet 71 = .ok (.i2l, 1) := by decide +kernel
theorem dX5_setOctet_72 : decode cX5_setOctet 72 = .ok (.iload 5, 2) := by decide +kernel
theorem dX5_setOctet_74 : decode cX5_setOctet 74 = .ok (.lshl, 1) := by decide +kernel
theorem dX5_setOctet_75 : decode cX5_setOctet 75 = .ok (.lor, 1) := by decide +kernel
theorem dX5_setOctet_76 : decode cX5_setOctet 76 = .ok (.lastore, 1) := by decide +kernel
theorem dX5_setOctet_77 : decode cX5_setOctet 77 = .ok (.return_, 1) := by decide +kernel
def J_X5_setOctet_23 (b0 fu : Nat)   (σ : tM) : Option ((Unit) × tM) := some ((), σ)
def m_X5_setOctet (b0 fu : Nat) (a0 : Nat) (p0 : Int32) (p1 : Int32) (p2 : Int32) (σ : tM) : Option ((Unit) × tM) := grw σ (if (p0) ≤ (0) then J_X5_setOctet_23 b0 fu    (σ) else ckO b0 (σ) (a0) 5 (if (tI (σ) (a0) 7) ≤ (p0) then J_X5_setOctet_23 b0 fu    (σ) else if (p1) < (0) then J_X5_setOctet_23 b0 fu    (σ) else if (p1) < (256) then ltb ((((p0) * (32)) + ((p1) >>> (((3 : Int32)) &&& 31)) : Int32)) (fun y7 => ltb ((((p1) &&& (7)) <<< (((3 : Int32)) &&& 31) : Int32)) (fun y8 => osm (tA (σ) (a0) 0) (fun a9 => osm (tA (σ) (a0) 0) (fun a11 => ckR b0 (σ) (a11) 3 (fun n15 => ckI (y7) (n15) (ckR b0 (σ) (a9) 3 (fun n19 => ckI (y7) (n19) (some ((), sL (σ) (a9) ((y7).toNatClampNeg) (((tL (σ) (a11) ((y7).toNatClampNeg)) &&& (((255) <<< ((y8).toInt64 &&& 63)) ^^^ ((-1)))) ||| ((((p2) &&& (255)).toInt64) <<< ((y8).toInt64 &&& 63)))))))))))) else J_X5_setOctet_23 b0 fu    (σ)))
set_option maxRecDepth 100000 in
set_option maxHeartbeats 1000000 in
theorem j_X5_setOctet_23 {p : Program} {l : Launch} {e : Env} {s : State} {m : MethodId} {args : Array Value} {below : List Frame} {meth : Method} {c : Code} {D : va_G} {aC : Nat → ClassId} {b0 fu : Nat} {σ0 τ : tM} {v : Unit}  (C : tCx p s m args meth c yX5_setOctet.cls cX5_setOctet 6 none D aC b0 σ0) (htab : ∀ x ∈ c.exceptionTable.toList, False) (hin : meth.name = yX5_setOctet.name)   {σ : tM} (hm : J_X5_setOctet_23 b0 fu   σ = some (v, τ)) : tX p l e s m args below meth c 6 0 0 D aC b0 σ0 (.inl none) τ 23 [] [] σ := by
  unfold J_X5_setOctet_23 at hm
  obtain ⟨rfl, rfl⟩ := ret_e hm
  exact zx_vret C rfl rfl rfl dX5_setOctet_23
set_option maxRecDepth 100000 in
set_option maxHeartbeats 1000000 in
theorem c_X5_setOctet {l : Launch} {D : va_G} {aC : Nat → ClassId} {b0 fu : Nat} {a0 : Nat} {p0 : Int32} {p1 : Int32} {p2 : Int32} {σ τ : tM} {v : Unit} (hm : m_X5_setOctet b0 fu a0 p0 p1 p2 σ = some (v, τ)) : tMt l D aC b0 yX5_setOctet (Cond.code yX5_setOctet cX5_setOctet 6 none) 0 0 [.ref (a0), .int (p0), .int (p1), .int (p2)] σ (.inl none) τ := by
  unfold m_X5_setOctet at hm
  obtain ⟨hg, hm⟩ := grw_e hm
  refine tMt_of (n := 0) rfl (Nat.le_of_ble_eq_true rfl) hg ?_
  intro p e s m below meth c C htab hin
  refine zx_lv [0, 1, 2, 3] [(0, .ref (a0)), (1, .int (p0)), (2, .int (p1)), (3, .int (p2))] rfl ?_
  refine zx_iload_n C dX5_setOctet_0 1 rfl ?_
  refine zx_if_le C 23 dX5_setOctet_1 (by decide) (fun c1 => ?_) (fun c1 => ?_)
  · replace hm := ip_e hm c1
    exact zx_lv [] [] rfl (j_X5_setOctet_23 C htab hin    hm)
  · replace hm := in_e hm c1
    refine zx_iload_n C dX5_setOctet_4 1 rfl ?_
    refine zx_aload_n C dX5_setOctet_5 0 rfl ?_
    obtain ⟨k2, i3, hm⟩ := ckO_e hm
    refine zx_get (j := 7) C tC_5 k2 i3 ⟨by decide, Or.inl W_1_104⟩ dX5_setOctet_6 (.int (tI (σ) (a0) 7)) rfl ?_
    refine zx_icmp_ge C 23 dX5_setOctet_9 (by decide) (fun c4 => ?_) (fun c4 => ?_)
    · replace hm := ip_e hm c4
      exact zx_lv [] [] rfl (j_X5_setOctet_23 C htab hin    hm)
    · replace hm := in_e hm c4
      refine zx_iload_n C dX5_setOctet_12 2 rfl ?_
      refine zx_if_lt C 23 dX5_setOctet_13 (by decide) (fun c5 => ?_) (fun c5 => ?_)
      · replace hm := ip_e hm c5
        exact zx_lv [] [] rfl (j_X5_setOctet_23 C htab hin    hm)
      · replace hm := in_e hm c5
        refine zx_iload_n C dX5_setOctet_16 2 rfl ?_
        refine zx_sipush (v := 256) C dX5_setOctet_17 (by decide) ?_
        refine zx_icmp_lt C 24 dX5_setOctet_20 (by decide) (fun c6 => ?_) (fun c6 => ?_)
        · replace hm := ip_e hm c6
          refine zx_iload_n C dX5_setOctet_24 1 rfl ?_
          refine zx_bipush (v := 32) C dX5_setOctet_25 (by decide) ?_
          refine zx_imul C dX5_setOctet_27 ?_
          refine zx_iload_n C dX5_setOctet_28 2 rfl ?_
          refine zx_iconst (v := 3) C dX5_setOctet_29 (by decide) ?_
          refine zx_ishr C dX5_setOctet_30 ?_
          refine zx_iadd C dX5_setOctet_31 ?_
          refine zx_topi (fun y7 hy7 => ?_)
          replace hm := ltb_e hm hy7
          refine zx_istore C [(4, .int (y7)), (0, .ref (a0)), (1, .int (p0)), (2, .int (p1)), (3, .int (p2))] dX5_setOctet_32 (by decide) rfl ?_
          refine zx_iload_n C dX5_setOctet_34 3 rfl ?_
          refine zx_bipush (v := 7) C dX5_setOctet_35 (by decide) ?_
          refine zx_iand C dX5_setOctet_37 ?_
          refine zx_iconst (v := 3) C dX5_setOctet_38 (by decide) ?_
          refine zx_ishl C dX5_setOctet_39 ?_
          refine zx_topi (fun y8 hy8 => ?_)
          replace hm := ltb_e hm hy8
          refine zx_istore C [(5, .int (y8)), (4, .int (y7)), (0, .ref (a0)), (1, .int (p0)), (2, .int (p1)), (3, .int (p2))] dX5_setOctet_40 (by decide) rfl ?_
          refine zx_aload_n C dX5_setOctet_42 2 rfl ?_
          obtain ⟨a9, h10, hm⟩ := osm_e hm
          refine zx_get (j := 0) C tC_5 k2 i3 ⟨by decide, Or.inl W_1_94⟩ dX5_setOctet_43 (.ref a9) (rf_s h10) ?_
          refine zx_iload C dX5_setOctet_46 1 rfl ?_
          refine zx_aload_n C dX5_setOctet_48 2 rfl ?_
          obtain ⟨a11, h12, hm⟩ := osm_e hm
          refine zx_get (j := 0) C tC_5 k2 i3 ⟨by decide, Or.inl W_1_94⟩ dX5_setOctet_49 (.ref a11) (rf_s h12) ?_
          refine zx_iload C dX5_setOctet_52 1 rfl ?_
          obtain ⟨n15, k13, i14, hm⟩ := ckR_e hm
          obtain ⟨h16, hm⟩ := ckI_e hm
          refine zx_lald C k13 i14 h16 dX5_setOctet_54 ?_
          refine zx_ldc2 (v := 255) C W_4_184 dX5_setOctet_55 ?_
          refine zx_iload C dX5_setOctet_58 0 rfl ?_
          refine zx_lshl C dX5_setOctet_60 ?_
          refine zx_ldc2 (v := (-1)) C W_4_185 dX5_setOctet_61 ?_
          refine zx_lxor C dX5_setOctet_64 ?_
          refine zx_land C dX5_setOctet_65 ?_
          refine zx_iload_n C dX5_setOctet_66 5 rfl ?_
          refine zx_sipush (v := 255) C dX5_setOctet_67 (by decide) ?_
          refine zx_iand C dX5_setOctet_70 ?_
          refine zx_i2l C dX5_setOctet_71 ?_
          refine zx_iload C dX5_setOctet_72 0 rfl ?_
          refine zx_lshl C dX5_setOctet_74 ?_
          refine zx_lor C dX5_setOctet_75 ?_
          obtain ⟨n19, k17, i18, hm⟩ := ckR_e hm
          obtain ⟨h20, hm⟩ := ckI_e hm
          refine zx_last C k17 i18 h20 dX5_setOctet_76 ?_
          obtain ⟨rfl, rfl⟩ := ret_e hm
          exact zx_vret C rfl rfl rfl dX5_setOctet_77
        · replace hm := in_e hm c6
          exact zx_lv [] [] rfl (j_X5_setOctet_23 C htab hin    hm)
