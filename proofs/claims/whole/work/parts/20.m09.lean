abbrev cX3_take : ByteArray := prog_5_method_3_code
def yX3_take : MethodName := ⟨"SyncTree$PathText", "take", "(LSyncTree$Tape;I)V"⟩
theorem Y_X3_take : tY yX3_take cX3_take 4 none 2 := ⟨W_3_31, W_1_9, ⟨by decide +kernel, by decide +kernel⟩, by decide +kernel⟩
theorem dX3_take_0 : decode cX3_take 0 = .ok (.aload_n 0, 1) := by decide +kernel
theorem dX3_take_1 : decode cX3_take 1 = .ok (.iconst 0, 1) := by decide +kernel
theorem dX3_take_2 : decode cX3_take 2 = .ok (.iload_n 2, 1) := by decide +kernel
theorem dX3_take_3 : decode cX3_take 3 = .ok (.bipush 120, 2) := by decide +kernel
theorem dX3_take_5 : decode cX3_take 5 = .ok (.invokestatic 25, 3) := by decide +kernel
theorem dX3_take_8 : decode cX3_take 8 = .ok (.invokestatic 31, 3) := by decide +kernel
theorem dX3_take_11 : decode cX3_take 11 = .ok (.putfield 15, 3) := by decide +kernel
theorem dX3_take_14 : decode cX3_take 14 = .ok (.iconst 0, 1) := by decide +kernel
theorem dX3_take_15 : decode cX3_take 15 = .ok (.istore_n 3, 1) := by decide +kernel
theorem dX3_take_16 : decode cX3_take 16 = .ok (.iload_n 3, 1) := by decide +kernel
theorem dX3_take_17 : decode cX3_take 17 = .ok (.aload_n 0, 1) := by decide +kernel
theorem dX3_take_18 : decode cX3_take 18 = .ok (.getfield 15, 3) := by decide +kernel
theorem dX3_take_21 : decode cX3_take 21 = .ok (.if_icmp .ge 20, 3) := by decide +kernel
theorem dX3_take_24 : decode cX3_take 24 = .ok (.aload_n 0, 1) := by decide +kernel
theorem dX3_take_25 : decode cX3_take 25 = .ok (.getfield 9, 3) := by decide +kernel
theorem dX3_take_28 : decode cX3_take 28 = .ok (.iload_n 3, 1) := by decide +kernel
theorem dX3_take_29 : decode cX3_take 29 = .ok (.aload_n 1, 1) := by decide +kernel
theorem dX3_take_30 : decode cX3_take 30 = .ok (.iload_n 3, 1) := by decide +kernel
theorem dX3_take_31 : decode cX3_take 31 = .ok (.invokevirtual 34, 3) := by decide +kernel
theorem dX3_take_34 : decode cX3_take 34 = .ok (.bastore, 1) := by decide +kernel
theorem dX3_take_35 : decode cX3_take 35 = .ok (.iinc 3 1, 3) := by decide +kernel
theorem dX3_take_38 : decode cX3_take 38 = .ok (.goto (-22), 3) := by decide +kernel
theorem dX3_take_41 : decode cX3_take 41 = .ok (.aload_n 0, 1) := by decide +kernel
theorem dX3_take_42 : decode cX3_take 42 = .ok (.getfield 15, 3) := by decide +kernel
theorem dX3_take_45 : decode cX3_take 45 = .ok (.istore_n 3, 1) := by decide +kernel
theorem dX3_take_46 : decode cX3_take 46 = .ok (.iload_n 3, 1) := by decide +kernel
theorem dX3_take_47 : decode cX3_take 47 = .ok (.ifCond .le 22, 3) := by decide +kernel
theorem dX3_take_50 : decode cX3_take 50 = .ok (.aload_n 0, 1) := by decide +kernel
theorem dX3_take_51 : decode cX3_take 51 = .ok (.getfield 9, 3) := by decide +kernel
theorem dX3_take_54 : decode cX3_take 54 = .ok (.iload_n 3, 1) := by decide +kernel
theorem dX3_take_55 : decode cX3_take 55 = .ok (.iconst 1, 1) := by decide +kernel
theorem dX3_take_56 : decode cX3_take 56 = .ok (.isub, 1) := by decide +kernel
theorem dX3_take_57 : decode cX3_take 57 = .ok (.baload, 1) := by decide +kernel
theorem dX3_take_58 : decode cX3_take 58 = .ok (.bipush 47, 2) := by decide +kernel
theorem dX3_take_60 : decode cX3_take 60 = .ok (.if_icmp .ne 9, 3) := by decide +kernel
theorem dX3_take_63 : decode cX3_take 63 = .ok (.iinc 3 (-1), 3) := by decide +kernel
theorem dX3_take_66 : decode cX3_take 66 = .ok (.goto (-20), 3) := by decide +kernel
theorem dX3_take_69 : decode cX3_take 69 = .ok (.aload_n 0, 1) := by decide +kernel
theorem dX3_take_70 : decode cX3_take 70 = .ok (.iload_n 3, 1) := by decide +kernel
theorem dX3_take_71 : decode cX3_take 71 = .ok (.putfield 19, 3) := by decide +kernel
theorem dX3_take_74 : decode cX3_take 74 = .ok (.aload_n 0, 1) := by decide +kernel
theorem dX3_take_75 : decode cX3_take 75 = .ok (.getfield 19, 3) := by decide +kernel
theorem dX3_take_78 : decode cX3_take 78 = .ok (.ifCond .le 32, 3) := by decide +kernel
theorem dX3_take_81 : decode cX3_take 81 = .ok (.aload_n 0, 1) := by decide +kernel
theorem dX3_take_82 : decode cX3_take 82 = .ok (.getfield 9, 3) := by decide +kernel
theorem dX3_take_85 : decode cX3_take 85 = .ok (.aload_n 0, 1) := by decide +kernel
theorem dX3_take_86 : decode cX3_take 86 = .ok (.getfield 19, 3) := by decide +kernel
theorem dX3_take_89 : decode cX3_take 89 = .ok (.iconst 1, 1) := by decide +kernel
theorem dX3_take_90 : decode cX3_take 90 = .ok (.isub, 1) := by decide +kernel
theorem dX3_take_91 : decode cX3_take 91 = .ok (.baload, 1) := by decide +kernel
theorem dX3_take_92 : decode cX3_take 92 = .ok (.bipush 47, 2) := by decide +kernel
theorem dX3_take_94 : decode cX3_take 94 = .ok (.if_icmp .eq 16, 3) := by decide +kernel
theorem dX3_take_97 : decode cX3_take 97 = .ok (.aload_n 0, 1) := by decide +kernel
theorem dX3_take_98 : decode cX3_take 98 = .ok (.dup, 1) := by decide +kernel
theorem dX3_take_99 : decode cX3_take 99 = .ok (.getfield 19, 3) := by decide +kernel
theorem dX3_take_102 : decode cX3_take 102 = .ok (.iconst 1, 1) := by decide +kernel
theorem dX3_take_103 : decode cX3_take 103 = .ok (.isub, 1) := by decide +kernel
theorem dX3_take_104 : decode cX3_take 104 = .ok (.putfield 19, 3) := by decide +kernel
theorem dX3_take_107 : decode cX3_take 107 = .ok (.goto (-33), 3) := by decide +kernel
theorem dX3_take_110 : decode cX3_take 110 = .ok (.aload_n 0, 1) := by decide +kernel
theorem dX3_take_111 : decode cX3_take 111 = .ok (.iload_n 3, 1) := by decide +kernel
theorem dX3_take_112 : decode cX3_take 112 = .ok (.aload_n 0, 1) := by decide +kernel
theorem dX3_take_113 : decode cX3_take 113 = .ok (.getfield 19, 3) := by decide +kernel
theorem dX3_take_116 : decode cX3_take 116 = .ok (.isub, 1) := by decide +kernel
theorem dX3_take_117 : decode cX3_take 117 = .ok (.putfield 22, 3) := by decide +kernel
theorem dX3_take_120 : decode cX3_take 120 = .ok (.return_, 1) := by decide +kernel
def J_X3_take_110 (b0 fu : Nat)  (x0 : Nat) (x3 : Int32) (σ : tM) : Option ((Unit) × tM) := ckO b0 (σ) (x0) 3 (some ((), sI (σ) (x0) 3 ((x3) - (tI (σ) (x0) 2))))
def L_X3_take_74 (b0 fu : Nat)  : Nat → Nat → Int32 → tM → Option ((Unit) × tM)
  | 0, _, _, _ => none
  | n + 1, x0, x3, σ => ltb (L_X3_take_74 b0 fu  n) (fun rc74 => ckO b0 (σ) (x0) 3 (if (tI (σ) (x0) 2) ≤ (0) then J_X3_take_110 b0 fu   (x0) (x3) (σ) else osm (tA (σ) (x0) 0) (fun a15 => ckR b0 (σ) (a15) 1 (fun n19 => ckI ((tI (σ) (x0) 2) - (1)) (n19) (if (tI (σ) (a15) (((tI (σ) (x0) 2) - (1)).toNatClampNeg)) = (47) then J_X3_take_110 b0 fu   (x0) (x3) (σ) else rc74 (x0) (x3) (sI (σ) (x0) 2 ((tI (σ) (x0) 2) - (1))))))))
def J_X3_take_69 (b0 fu : Nat)  (x0 : Nat) (x3 : Int32) (σ : tM) : Option ((Unit) × tM) := ckO b0 (σ) (x0) 3 (L_X3_take_74 b0 fu  (fu) (x0) (x3) (sI (σ) (x0) 2 (x3)))
def L_X3_take_46 (b0 fu : Nat)  : Nat → Nat → Int32 → tM → Option ((Unit) × tM)
  | 0, _, _, _ => none
  | n + 1, x0, x3, σ => ltb (L_X3_take_46 b0 fu  n) (fun rc46 => if (x3) ≤ (0) then J_X3_take_69 b0 fu   (x0) (x3) (σ) else ckO b0 (σ) (x0) 3 (osm (tA (σ) (x0) 0) (fun a24 => ckR b0 (σ) (a24) 1 (fun n28 => ckI ((x3) - (1)) (n28) (if (tI (σ) (a24) (((x3) - (1)).toNatClampNeg)) = (47) then ltb ((x3) + Int32.ofInt (-1)) (fun y31 => rc46 (x0) (y31) (σ)) else J_X3_take_69 b0 fu   (x0) (x3) (σ))))))
def L_X3_take_16 (b0 fu : Nat)  : Nat → Nat → Nat → Int32 → tM → Option ((Unit) × tM)
  | 0, _, _, _, _ => none
  | n + 1, x0, x1, x3, σ => ltb (L_X3_take_16 b0 fu  n) (fun rc16 => ckO b0 (σ) (x0) 3 (if (tI (σ) (x0) 1) ≤ (x3) then ltb ((tI (σ) (x0) 1 : Int32)) (fun y6 => L_X3_take_46 b0 fu  (fu) (x0) (y6) (σ)) else osm (tA (σ) (x0) 0) (fun a32 => ckO b0 (σ) (x1) 6 (cll (m_X6_octet b0 fu (x1) (x3) (σ)) (fun v36 ρ37 => ckR b0 (ρ37) (a32) 1 (fun n41 => ckI (x3) (n41) (ltb ((x3) + Int32.ofInt 1) (fun y43 => rc16 (x0) (x1) (y43) (sI (ρ37) (a32) ((x3).toNatClampNeg) (vp_nar .byte (v36)))))))))))
def m_X3_take (b0 fu : Nat) (a0 : Nat) (p0 : Nat) (p1 : Int32) (σ : tM) : Option ((Unit) × tM) := grw σ (ckO b0 (σ) (a0) 3 (L_X3_take_16 b0 fu  (fu) (a0) (p0) (0) (sI (σ) (a0) 1 ((if ((0 : Int32)) < ((if ((120 : Int32)) < (p1) then (120) else (p1) : Int32)) then ((if ((120 : Int32)) < (p1) then (120) else (p1) : Int32)) else (0) : Int32)))))
set_option maxRecDepth 100000 in
set_option maxHeartbeats 1000000 in
theorem j_X3_take_110 {p : Program} {l : Launch} {e : Env} {s : State} {m : MethodId} {args : Array Value} {below : List Frame} {meth : Method} {c : Code} {D : va_G} {aC : Nat → ClassId} {b0 fu : Nat} {σ0 τ : tM} {v : Unit}  (C : tCx p s m args meth c yX3_take.cls cX3_take 4 none D aC b0 σ0) (htab : ∀ x ∈ c.exceptionTable.toList, False) (hin : meth.name = yX3_take.name)  {x0 : Nat} {x3 : Int32} {σ : tM} (hm : J_X3_take_110 b0 fu  x0 x3 σ = some (v, τ)) : tX p l e s m args below meth c 4 1 21 D aC b0 σ0 (.inl none) τ 110 [(0, .ref (x0)), (3, .int (x3))] [] σ := by
  unfold J_X3_take_110 at hm
  refine zx_aload_n C dX3_take_110 0 rfl ?_
  refine zx_iload_n C dX3_take_111 1 rfl ?_
  refine zx_aload_n C dX3_take_112 0 rfl ?_
  obtain ⟨k13, i14, hm⟩ := ckO_e hm
  refine zx_get (j := 2) C tC_3 k13 i14 ⟨by decide, Or.inl W_2_63⟩ dX3_take_113 (.int (tI (σ) (x0) 2)) rfl ?_
  refine zx_isub C dX3_take_116 ?_
  refine zx_put (j := 3) (ρ := sI (σ) (x0) 3 ((x3) - (tI (σ) (x0) 2))) C tC_3 k13 i14 ⟨by decide, Or.inl W_2_66⟩ rfl rfl rfl (sI_ok (fun _ => rfl)) dX3_take_117 ?_
  obtain ⟨rfl, rfl⟩ := ret_e hm
  exact zx_vret C rfl rfl rfl dX3_take_120
set_option maxRecDepth 100000 in
set_option maxHeartbeats 1000000 in
theorem l_X3_take_74 {p : Program} {l : Launch} {e : Env} {s : State} {m : MethodId} {args : Array Value} {below : List Frame} {meth : Method} {c : Code} {D : va_G} {aC : Nat → ClassId} {b0 fu : Nat} {σ0 τ : tM} {v : Unit}  (C : tCx p s m args meth c yX3_take.cls cX3_take 4 none D aC b0 σ0) (htab : ∀ x ∈ c.exceptionTable.toList, False) (hin : meth.name = yX3_take.name)  : ∀ (n : Nat) (x0 : Nat) (x3 : Int32) (σ : tM), L_X3_take_74 b0 fu  n x0 x3 σ = some (v, τ) → tX p l e s m args below meth c 4 1 21 D aC b0 σ0 (.inl none) τ 74 [(0, .ref (x0)), (3, .int (x3))] [] σ := by
  intro n
  induction n with
  | zero => intro x0 x3 σ hm; unfold L_X3_take_74 at hm; cases hm
  | succ n ih =>
    intro x0 x3 σ hm
    unfold L_X3_take_74 at hm
    obtain ⟨rc74, hrc⟩ : ∃ z, z = L_X3_take_74 b0 fu  n := ⟨_, rfl⟩
    replace hm := ltb_e hm hrc
    rw [← hrc] at ih
    have hrc74 := ih
    clear ih hrc
    refine zx_aload_n C dX3_take_74 0 rfl ?_
    obtain ⟨k10, i11, hm⟩ := ckO_e hm
    refine zx_get (j := 2) C tC_3 k10 i11 ⟨by decide, Or.inl W_2_63⟩ dX3_take_75 (.int (tI (σ) (x0) 2)) rfl ?_
    refine zx_if_le C 110 dX3_take_78 (by decide) (fun c12 => ?_) (fun c12 => ?_)
    · replace hm := ip_e hm c12
      exact zx_lv [0, 1] [(0, .ref (x0)), (3, .int (x3))] rfl (j_X3_take_110 C htab hin    hm)
    · replace hm := in_e hm c12
      refine zx_aload_n C dX3_take_81 0 rfl ?_
      obtain ⟨a15, h16, hm⟩ := osm_e hm
      refine zx_get (j := 0) C tC_3 k10 i11 ⟨by decide, Or.inl W_2_56⟩ dX3_take_82 (.ref a15) (rf_s h16) ?_
      refine zx_aload_n C dX3_take_85 0 rfl ?_
      refine zx_get (j := 2) C tC_3 k10 i11 ⟨by decide, Or.inl W_2_63⟩ dX3_take_86 (.int (tI (σ) (x0) 2)) rfl ?_
      refine zx_iconst (v := 1) C dX3_take_89 (by decide) ?_
      refine zx_isub C dX3_take_90 ?_
      obtain ⟨n19, k17, i18, hm⟩ := ckR_e hm
      obtain ⟨h20, hm⟩ := ckI_e hm
      refine zx_bald C k17 i18 h20 dX3_take_91 ?_
      refine zx_bipush (v := 47) C dX3_take_92 (by decide) ?_
      refine zx_icmp_eq C 110 dX3_take_94 (by decide) (fun c21 => ?_) (fun c21 => ?_)
      · replace hm := ip_e hm c21
        exact zx_lv [0, 1] [(0, .ref (x0)), (3, .int (x3))] rfl (j_X3_take_110 C htab hin    hm)
      · replace hm := in_e hm c21
        refine zx_aload_n C dX3_take_97 0 rfl ?_
        refine zx_dup C dX3_take_98 rfl ?_
        refine zx_get (j := 2) C tC_3 k10 i11 ⟨by decide, Or.inl W_2_63⟩ dX3_take_99 (.int (tI (σ) (x0) 2)) rfl ?_
        refine zx_iconst (v := 1) C dX3_take_102 (by decide) ?_
        refine zx_isub C dX3_take_103 ?_
        refine zx_put (j := 2) (ρ := sI (σ) (x0) 2 ((tI (σ) (x0) 2) - (1))) C tC_3 k10 i11 ⟨by decide, Or.inl W_2_63⟩ rfl rfl rfl (sI_ok (fun _ => rfl)) dX3_take_104 ?_
        refine zx_goto C 74 dX3_take_107 (by decide) ?_
        exact zx_lv [0, 1] [(0, .ref (x0)), (3, .int (x3))] rfl (hrc74 _ _ _ hm)
set_option maxRecDepth 100000 in
set_option maxHeartbeats 1000000 in
theorem j_X3_take_69 {p : Program} {l : Launch} {e : Env} {s : State} {m : MethodId} {args : Array Value} {below : List Frame} {meth : Method} {c : Code} {D : va_G} {aC : Nat → ClassId} {b0 fu : Nat} {σ0 τ : tM} {v : Unit}  (C : tCx p s m args meth c yX3_take.cls cX3_take 4 none D aC b0 σ0) (htab : ∀ x ∈ c.exceptionTable.toList, False) (hin : meth.name = yX3_take.name)  {x0 : Nat} {x3 : Int32} {σ : tM} (hm : J_X3_take_69 b0 fu  x0 x3 σ = some (v, τ)) : tX p l e s m args below meth c 4 1 21 D aC b0 σ0 (.inl none) τ 69 [(0, .ref (x0)), (3, .int (x3))] [] σ := by
  unfold J_X3_take_69 at hm
  refine zx_aload_n C dX3_take_69 0 rfl ?_
  refine zx_iload_n C dX3_take_70 1 rfl ?_
  obtain ⟨k8, i9, hm⟩ := ckO_e hm
  refine zx_put (j := 2) (ρ := sI (σ) (x0) 2 (x3)) C tC_3 k8 i9 ⟨by decide, Or.inl W_2_63⟩ rfl rfl rfl (sI_ok (fun _ => rfl)) dX3_take_71 ?_
  exact zx_lv [0, 1] [(0, .ref (x0)), (3, .int (x3))] rfl (l_X3_take_74 C htab hin  _ _ _ _ hm)
set_option maxRecDepth 100000 in
set_option maxHeartbeats 1000000 in
theorem l_X3_take_46 {p : Program} {l : Launch} {e : Env} {s : State} {m : MethodId} {args : Array Value} {below : List Frame} {meth : Method} {c : Code} {D : va_G} {aC : Nat → ClassId} {b0 fu : Nat} {σ0 τ : tM} {v : Unit}  (C : tCx p s m args meth c yX3_take.cls cX3_take 4 none D aC b0 σ0) (htab : ∀ x ∈ c.exceptionTable.toList, False) (hin : meth.name = yX3_take.name)  : ∀ (n : Nat) (x0 : Nat) (x3 : Int32) (σ : tM), L_X3_take_46 b0 fu  n x0 x3 σ = some (v, τ) → tX p l e s m args below meth c 4 1 21 D aC b0 σ0 (.inl none) τ 46 [(0, .ref (x0)), (3, .int (x3))] [] σ := by
  intro n
  induction n with
  | zero => intro x0 x3 σ hm; unfold L_X3_take_46 at hm; cases hm
  | succ n ih =>
    intro x0 x3 σ hm
    unfold L_X3_take_46 at hm
    obtain ⟨rc46, hrc⟩ : ∃ z, z = L_X3_take_46 b0 fu  n := ⟨_, rfl⟩
    replace hm := ltb_e hm hrc
    rw [← hrc] at ih
    have hrc46 := ih
    clear ih hrc
    refine zx_iload_n C dX3_take_46 1 rfl ?_
    refine zx_if_le C 69 dX3_take_47 (by decide) (fun c7 => ?_) (fun c7 => ?_)
    · replace hm := ip_e hm c7
      exact zx_lv [0, 1] [(0, .ref (x0)), (3, .int (x3))] rfl (j_X3_take_69 C htab hin    hm)
    · replace hm := in_e hm c7
      refine zx_aload_n C dX3_take_50 0 rfl ?_
      obtain ⟨k22, i23, hm⟩ := ckO_e hm
      obtain ⟨a24, h25, hm⟩ := osm_e hm
      refine zx_get (j := 0) C tC_3 k22 i23 ⟨by decide, Or.inl W_2_56⟩ dX3_take_51 (.ref a24) (rf_s h25) ?_
      refine zx_iload_n C dX3_take_54 1 rfl ?_
      refine zx_iconst (v := 1) C dX3_take_55 (by decide) ?_
      refine zx_isub C dX3_take_56 ?_
      obtain ⟨n28, k26, i27, hm⟩ := ckR_e hm
      obtain ⟨h29, hm⟩ := ckI_e hm
      refine zx_bald C k26 i27 h29 dX3_take_57 ?_
      refine zx_bipush (v := 47) C dX3_take_58 (by decide) ?_
      refine zx_icmp_ne C 69 dX3_take_60 (by decide) (fun c30 => ?_) (fun c30 => ?_)
      · replace hm := in_e hm c30
        exact zx_lv [0, 1] [(0, .ref (x0)), (3, .int (x3))] rfl (j_X3_take_69 C htab hin    hm)
      · replace hm := ip_e hm c30
        obtain ⟨y31, hy31⟩ : ∃ z : Int32, z = (x3) + Int32.ofInt (-1) := ⟨_, rfl⟩
        replace hm := ltb_e hm hy31
        refine zx_iinc C [(3, .int (y31)), (0, .ref (x0))] dX3_take_63 1 rfl hy31.symm (by decide) rfl ?_
        refine zx_goto C 46 dX3_take_66 (by decide) ?_
        exact zx_lv [1, 0] [(0, .ref (x0)), (3, .int (y31))] rfl (hrc46 _ _ _ hm)
set_option maxRecDepth 100000 in
set_option maxHeartbeats 1000000 in
theorem l_X3_take_16 {p : Program} {l : Launch} {e : Env} {s : State} {m : MethodId} {args : Array Value} {below : List Frame} {meth : Method} {c : Code} {D : va_G} {aC : Nat → ClassId} {b0 fu : Nat} {σ0 τ : tM} {v : Unit}  (C : tCx p s m args meth c yX3_take.cls cX3_take 4 none D aC b0 σ0) (htab : ∀ x ∈ c.exceptionTable.toList, False) (hin : meth.name = yX3_take.name)  : ∀ (n : Nat) (x0 : Nat) (x1 : Nat) (x3 : Int32) (σ : tM), L_X3_take_16 b0 fu  n x0 x1 x3 σ = some (v, τ) → tX p l e s m args below meth c 4 1 21 D aC b0 σ0 (.inl none) τ 16 [(0, .ref (x0)), (1, .ref (x1)), (3, .int (x3))] [] σ := by
  intro n
  induction n with
  | zero => intro x0 x1 x3 σ hm; unfold L_X3_take_16 at hm; cases hm
  | succ n ih =>
    intro x0 x1 x3 σ hm
    unfold L_X3_take_16 at hm
    obtain ⟨rc16, hrc⟩ : ∃ z, z = L_X3_take_16 b0 fu  n := ⟨_, rfl⟩
    replace hm := ltb_e hm hrc
    rw [← hrc] at ih
    have hrc16 := ih
    clear ih hrc
    refine zx_iload_n C dX3_take_16 2 rfl ?_
    refine zx_aload_n C dX3_take_17 0 rfl ?_
    obtain ⟨k3, i4, hm⟩ := ckO_e hm
    refine zx_get (j := 1) C tC_3 k3 i4 ⟨by decide, Or.inl W_2_59⟩ dX3_take_18 (.int (tI (σ) (x0) 1)) rfl ?_
    refine zx_icmp_ge C 41 dX3_take_21 (by decide) (fun c5 => ?_) (fun c5 => ?_)
    · replace hm := ip_e hm c5
      refine zx_aload_n C dX3_take_41 0 rfl ?_
      refine zx_get (j := 1) C tC_3 k3 i4 ⟨by decide, Or.inl W_2_59⟩ dX3_take_42 (.int (tI (σ) (x0) 1)) rfl ?_
      refine zx_topi (fun y6 hy6 => ?_)
      replace hm := ltb_e hm hy6
      refine zx_istore_n C [(3, .int (y6)), (0, .ref (x0)), (1, .ref (x1))] dX3_take_45 rfl (by decide) rfl ?_
      exact zx_lv [1, 0] [(0, .ref (x0)), (3, .int (y6))] rfl (l_X3_take_46 C htab hin  _ _ _ _ hm)
    · replace hm := in_e hm c5
      refine zx_aload_n C dX3_take_24 0 rfl ?_
      obtain ⟨a32, h33, hm⟩ := osm_e hm
      refine zx_get (j := 0) C tC_3 k3 i4 ⟨by decide, Or.inl W_2_56⟩ dX3_take_25 (.ref a32) (rf_s h33) ?_
      refine zx_iload_n C dX3_take_28 2 rfl ?_
      refine zx_aload_n C dX3_take_29 1 rfl ?_
      refine zx_iload_n C dX3_take_30 2 rfl ?_
      obtain ⟨k34, i35, hm⟩ := ckO_e hm
      obtain ⟨v36, ρ37, h38, hm⟩ := cll_e hm
      refine zx_callV (σ := σ) C [.int (x3)] tC_6 k34 i35 Y_X6_octet W_3_34 W_3_35 W_3_36 (c_X6_octet h38) (by decide) (by decide) rfl (Nat.le_of_ble_eq_true rfl) dX3_take_31 rfl ?_
      obtain ⟨n41, k39, i40, hm⟩ := ckR_e hm
      obtain ⟨h42, hm⟩ := ckI_e hm
      refine zx_bast C k39 i40 h42 dX3_take_34 ?_
      obtain ⟨y43, hy43⟩ : ∃ z : Int32, z = (x3) + Int32.ofInt 1 := ⟨_, rfl⟩
      replace hm := ltb_e hm hy43
      refine zx_iinc C [(3, .int (y43)), (0, .ref (x0)), (1, .ref (x1))] dX3_take_35 2 rfl hy43.symm (by decide) rfl ?_
      refine zx_goto C 16 dX3_take_38 (by decide) ?_
      exact zx_lv [1, 2, 0] [(0, .ref (x0)), (1, .ref (x1)), (3, .int (y43))] rfl (hrc16 _ _ _ _ hm)
set_option maxRecDepth 100000 in
set_option maxHeartbeats 1000000 in
theorem c_X3_take {l : Launch} {D : va_G} {aC : Nat → ClassId} {b0 fu : Nat} {a0 : Nat} {p0 : Nat} {p1 : Int32} {σ τ : tM} {v : Unit} (hm : m_X3_take b0 fu a0 p0 p1 σ = some (v, τ)) : tMt l D aC b0 yX3_take (Cond.code yX3_take cX3_take 4 none) 1 21 [.ref (a0), .ref (p0), .int (p1)] σ (.inl none) τ := by
  unfold m_X3_take at hm
  obtain ⟨hg, hm⟩ := grw_e hm
  refine tMt_of (n := 0) rfl (Nat.le_of_ble_eq_true rfl) hg ?_
  intro p e s m below meth c C htab hin
  refine zx_lv [0, 1, 2] [(0, .ref (a0)), (1, .ref (p0)), (2, .int (p1))] rfl ?_
  refine zx_aload_n C dX3_take_0 0 rfl ?_
  refine zx_iconst (v := 0) C dX3_take_1 (by decide) ?_
  refine zx_iload_n C dX3_take_2 2 rfl ?_
  refine zx_bipush (v := 120) C dX3_take_3 (by decide) ?_
  refine zx_min C W_3_32 W_2_106 W_1_10 W_2_107 (by decide) (by decide) (Nat.le_of_ble_eq_true rfl) dX3_take_5 ?_
  refine zx_max C W_3_33 W_2_109 W_1_10 W_2_110 (by decide) (by decide) (Nat.le_of_ble_eq_true rfl) dX3_take_8 ?_
  obtain ⟨k1, i2, hm⟩ := ckO_e hm
  refine zx_put (j := 1) (ρ := sI (σ) (a0) 1 ((if ((0 : Int32)) < ((if ((120 : Int32)) < (p1) then (120) else (p1) : Int32)) then ((if ((120 : Int32)) < (p1) then (120) else (p1) : Int32)) else (0) : Int32))) C tC_3 k1 i2 ⟨by decide, Or.inl W_2_59⟩ rfl rfl rfl (sI_ok (fun _ => rfl)) dX3_take_11 ?_
  refine zx_iconst (v := 0) C dX3_take_14 (by decide) ?_
  refine zx_istore_n C [(3, .int (0)), (0, .ref (a0)), (1, .ref (p0)), (2, .int (p1))] dX3_take_15 rfl (by decide) rfl ?_
  exact zx_lv [1, 2, 0] [(0, .ref (a0)), (1, .ref (p0)), (3, .int (0))] rfl (l_X3_take_16 C htab hin  _ _ _ _ _ hm)
abbrev cX3_hasOwnLastName : ByteArray := prog_5_method_4_code
def yX3_hasOwnLastName : MethodName := ⟨"SyncTree$PathText", "hasOwnLastName", "()Z"⟩
theorem Y_X3_hasOwnLastName : tY yX3_hasOwnLastName cX3_hasOwnLastName 1 (some .boolean) 0 := ⟨W_4_143, W_1_9, ⟨by decide +kernel, by decide +kernel⟩, by decide +kernel⟩
theorem dX3_hasOwnLastName_0 : decode cX3_hasOwnLastName 0 = .ok (.aload_n 0, 1) := by decide +kernel
theorem dX3_hasOwnLastName_1 : decode cX3_hasOwnLastName 1 = .ok (.getfield 22, 3) := by decide +kernel
theorem dX3_hasOwnLastName_4 : decode cX3_hasOwnLastName 4 = .ok (.ifCond .le 25, 3) := by decide +kernel
theorem dX3_hasOwnLastName_7 : decode cX3_hasOwnLastName 7 = .ok (.aload_n 0, 1) := by decide +kernel
theorem dX3_hasOwnLastName_8 : decode cX3_hasOwnLastName 8 = .ok (.getfield 9, 3) := by decide +kernel
theorem dX3_hasOwnLastName_11 : decode cX3_hasOwnLastName 11 = .ok (.aload_n 0, 1) := by decide +kernel
theorem dX3_hasOwnLastName_12 : decode cX3_hasOwnLastName 12 = .ok (.getfield 19, 3) := by decide +kernel
theorem dX3_hasOwnLastName_15 : decode cX3_hasOwnLastName 15 = .ok (.aload_n 0, 1) := by decide +kernel
theorem dX3_hasOwnLastName_16 : decode cX3_hasOwnLastName 16 = .ok (.getfield 22, 3) := by decide +kernel
theorem dX3_hasOwnLastName_19 : decode cX3_hasOwnLastName 19 = .ok (.invokestatic 40, 3) := by decide +kernel
theorem dX3_hasOwnLastName_22 : decode cX3_hasOwnLastName 22 = .ok (.ifCond .ne 7, 3) := by decide +kernel
theorem dX3_hasOwnLastName_25 : decode cX3_hasOwnLastName 25 = .ok (.iconst 1, 1) := by decide +kernel
theorem dX3_hasOwnLastName_26 : decode cX3_hasOwnLastName 26 = .ok (.goto 4, 3) := by decide +kernel
theorem dX3_hasOwnLastName_29 : decode cX3_hasOwnLastName 29 = .ok (.iconst 0, 1) := by decide +kernel
theorem dX3_hasOwnLastName_30 : decode cX3_hasOwnLastName 30 = .ok (.ireturn, 1) := by decide +kernel
def J_X3_hasOwnLastName_30 (b0 fu : Nat)  (s0 : Int32) (σ : tM) : Option ((Int32) × tM) := ckZ (s0) (some (s0, σ))
def J_X3_hasOwnLastName_29 (b0 fu : Nat)   (σ : tM) : Option ((Int32) × tM) := J_X3_hasOwnLastName_30 b0 fu   (0) (σ)
def m_X3_hasOwnLastName (b0 fu : Nat) (a0 : Nat) (σ : tM) : Option ((Int32) × tM) := grw σ (ckO b0 (σ) (a0) 3 (if (tI (σ) (a0) 3) ≤ (0) then J_X3_hasOwnLastName_29 b0 fu    (σ) else osm (tA (σ) (a0) 0) (fun a5 => cll (m_X3_isDots b0 fu (a5) (tI (σ) (a0) 2) (tI (σ) (a0) 3) (σ)) (fun v7 ρ8 => if (v7) = (0) then J_X3_hasOwnLastName_30 b0 fu   (1) (ρ8) else J_X3_hasOwnLastName_29 b0 fu    (ρ8)))))
set_option maxRecDepth 100000 in
set_option maxHeartbeats 1000000 in
theorem j_X3_hasOwnLastName_30 {p : Program} {l : Launch} {e : Env} {s : State} {m : MethodId} {args : Array Value} {below : List Frame} {meth : Method} {c : Code} {D : va_G} {aC : Nat → ClassId} {b0 fu : Nat} {σ0 τ : tM} {v : Int32}  (C : tCx p s m args meth c yX3_hasOwnLastName.cls cX3_hasOwnLastName 1 (some .boolean) D aC b0 σ0) (htab : ∀ x ∈ c.exceptionTable.toList, False) (hin : meth.name = yX3_hasOwnLastName.name)  {s0 : Int32} {σ : tM} (hm : J_X3_hasOwnLastName_30 b0 fu  s0 σ = some (v, τ)) : tX p l e s m args below meth c 1 1 22 D aC b0 σ0 (.inl (some (.int v))) τ 30 [] [.int (s0)] σ := by
  unfold J_X3_hasOwnLastName_30 at hm
  obtain ⟨h4, hm⟩ := ckZ_e hm
  obtain ⟨rfl, rfl⟩ := ret_e hm
  exact zx_zret C rfl h4 rfl rfl dX3_hasOwnLastName_30
set_option maxRecDepth 100000 in
set_option maxHeartbeats 1000000 in
theorem j_X3_hasOwnLastName_29 {p : Program} {l : Launch} {e : Env} {s : State} {m : MethodId} {args : Array Value} {below : List Frame} {meth : Method} {c : Code} {D : va_G} {aC : Nat → ClassId} {b0 fu : Nat} {σ0 τ : tM} {v : Int32}  (C : tCx p s m args meth c yX3_hasOwnLastName.cls cX3_hasOwnLastName 1 (some .boolean) D aC b0 σ0) (htab : ∀ x ∈ c.exceptionTable.toList, False) (hin : meth.name = yX3_hasOwnLastName.name)   {σ : tM} (hm : J_X3_hasOwnLastName_29 b0 fu   σ = some (v, τ)) : tX p l e s m args below meth c 1 1 22 D aC b0 σ0 (.inl (some (.int v))) τ 29 [] [] σ := by
  unfold J_X3_hasOwnLastName_29 at hm
  refine zx_iconst (v := 0) C dX3_hasOwnLastName_29 (by decide) ?_
  exact zx_lv [] [] rfl (j_X3_hasOwnLastName_30 C htab hin    hm)
set_option maxRecDepth 100000 in
set_option maxHeartbeats 1000000 in
theorem c_X3_hasOwnLastName {l : Launch} {D : va_G} {aC : Nat → ClassId} {b0 fu : Nat} {a0 : Nat} {σ τ : tM} {v : Int32} (hm : m_X3_hasOwnLastName b0 fu a0 σ = some (v, τ)) : tMt l D aC b0 yX3_hasOwnLastName (Cond.code yX3_hasOwnLastName cX3_hasOwnLastName 1 (some .boolean)) 1 22 [.ref (a0)] σ (.inl (some (.int v))) τ := by
  unfold m_X3_hasOwnLastName at hm
  obtain ⟨hg, hm⟩ := grw_e hm
  refine tMt_of (n := 0) rfl (Nat.le_of_ble_eq_true rfl) hg ?_
  intro p e s m below meth c C htab hin
  refine zx_lv [0] [(0, .ref (a0))] rfl ?_
  refine zx_aload_n C dX3_hasOwnLastName_0 0 rfl ?_
  obtain ⟨k1, i2, hm⟩ := ckO_e hm
  refine zx_get (j := 3) C tC_3 k1 i2 ⟨by decide, Or.inl W_2_66⟩ dX3_hasOwnLastName_1 (.int (tI (σ) (a0) 3)) rfl ?_
  refine zx_if_le C 29 dX3_hasOwnLastName_4 (by decide) (fun c3 => ?_) (fun c3 => ?_)
  · replace hm := ip_e hm c3
    exact zx_lv [] [] rfl (j_X3_hasOwnLastName_29 C htab hin    hm)
  · replace hm := in_e hm c3
    refine zx_aload_n C dX3_hasOwnLastName_7 0 rfl ?_
    obtain ⟨a5, h6, hm⟩ := osm_e hm
    refine zx_get (j := 0) C tC_3 k1 i2 ⟨by decide, Or.inl W_2_56⟩ dX3_hasOwnLastName_8 (.ref a5) (rf_s h6) ?_
    refine zx_aload_n C dX3_hasOwnLastName_11 0 rfl ?_
    refine zx_get (j := 2) C tC_3 k1 i2 ⟨by decide, Or.inl W_2_63⟩ dX3_hasOwnLastName_12 (.int (tI (σ) (a0) 2)) rfl ?_
    refine zx_aload_n C dX3_hasOwnLastName_15 0 rfl ?_
    refine zx_get (j := 3) C tC_3 k1 i2 ⟨by decide, Or.inl W_2_66⟩ dX3_hasOwnLastName_16 (.int (tI (σ) (a0) 3)) rfl ?_
    obtain ⟨v7, ρ8, h9, hm⟩ := cll_e hm
    refine zx_callS (σ := σ) C [.ref (a5), .int (tI (σ) (a0) 2), .int (tI (σ) (a0) 3)] Y_X3_isDots W_4_144 W_4_94 (c_X3_isDots h9) (by decide) (by decide) rfl (Nat.le_of_ble_eq_true rfl) dX3_hasOwnLastName_19 rfl ?_
    refine zx_if_ne C 29 dX3_hasOwnLastName_22 (by decide) (fun c10 => ?_) (fun c10 => ?_)
    · replace hm := in_e hm c10
      exact zx_lv [] [] rfl (j_X3_hasOwnLastName_29 C htab hin    hm)
    · replace hm := ip_e hm c10
      refine zx_iconst (v := 1) C dX3_hasOwnLastName_25 (by decide) ?_
      refine zx_goto C 30 dX3_hasOwnLastName_26 (by decide) ?_
      exact zx_lv [] [] rfl (j_X3_hasOwnLastName_30 C htab hin    hm)
abbrev cX5_forgetMarks : ByteArray := prog_7_method_3_code
def yX5_forgetMarks : MethodName := ⟨"SyncTree$Space", "forgetMarks", "()V"⟩
theorem Y_X5_forgetMarks : tY yX5_forgetMarks cX5_forgetMarks 2 none 0 := ⟨W_2_118, W_1_3, ⟨by decide +kernel, by decide +kernel⟩, by decide +kernel⟩
theorem dX5_forgetMarks_0 : decode cX5_forgetMarks 0 = .ok (.iconst 0, 1) := by decide +kernel
theorem dX5_forgetMarks_1 : decode cX5_forgetMarks 1 = .ok (.istore_n 1, 1) := by decide +kernel
theorem dX5_forgetMarks_2 : decode cX5_forgetMarks 2 = .ok (.iload_n 1, 1) := by decide +kernel
theorem dX5_forgetMarks_3 : decode cX5_forgetMarks 3 = .ok (.aload_n 0, 1) := by decide +kernel
theorem dX5_forgetMarks_4 : decode cX5_forgetMarks 4 = .ok (.getfield 48, 3) := by decide +kernel
theorem dX5_forgetMarks_7 : decode cX5_forgetMarks 7 = .ok (.if_icmp .ge 21, 3) := by decide +kernel
theorem dX5_forgetMarks_10 : decode cX5_forgetMarks 10 = .ok (.aload_n 0, 1) := by decide +kernel
theorem dX5_forgetMarks_11 : decode cX5_forgetMarks 11 = .ok (.getfield 65, 3) := by decide +kernel
theorem dX5_forgetMarks_14 : decode cX5_forgetMarks 14 = .ok (.ifCond .le 14, 3) := by decide +kernel
theorem dX5_forgetMarks_17 : decode cX5_forgetMarks 17 = .ok (.aload_n 0, 1) := by decide +kernel
theorem dX5_forgetMarks_18 : decode cX5_forgetMarks 18 = .ok (.iload_n 1, 1) := by decide +kernel
theorem dX5_forgetMarks_19 : decode cX5_forgetMarks 19 = .ok (.invokevirtual 68, 3) := by decide +kernel
theorem dX5_forgetMarks_22 : decode cX5_forgetMarks 22 = .ok (.iinc 1 1, 3) := by decide +kernel
theorem dX5_forgetMarks_25 : decode cX5_forgetMarks 25 = .ok (.goto (-23), 3) := by decide +kernel
theorem dX5_forgetMarks_28 : decode cX5_forgetMarks 28 = .ok (.aload_n 0, 1) := by decide +kernel
theorem dX5_forgetMarks_29 : decode cX5_forgetMarks 29 = .ok (.aload_n 0, 1) := by decide +kernel
theorem dX5_forgetMarks_30 : decode cX5_forgetMarks 30 = .ok (.getfield 72, 3) := by decide +kernel
theorem dX5_forgetMarks_33 : decode cX5_forgetMarks 33 = .ok (.invokevirtual 75, 3) := by decide +kernel
theorem dX5_forgetMarks_36 : decode cX5_forgetMarks 36 = .ok (.return_, 1) := by decide +kernel
def J_X5_forgetMarks_28 (b0 fu : Nat)  (x0 : Nat) (σ : tM) : Option ((Unit) × tM) := ckO b0 (σ) (x0) 5 (cll (m_X5_emptyGroup b0 fu (x0) (tI (σ) (x0) 16) (σ)) (fun v6 ρ7 => some ((), ρ7)))
def L_X5_forgetMarks_2 (b0 fu : Nat)  : Nat → Nat → Int32 → tM → Option ((Unit) × tM)
  | 0, _, _, _ => none
  | n + 1, x0, x1, σ => ltb (L_X5_forgetMarks_2 b0 fu  n) (fun rc2 => ckO b0 (σ) (x0) 5 (if (tI (σ) (x0) 7) ≤ (x1) then J_X5_forgetMarks_28 b0 fu   (x0) (σ) else if (tI (σ) (x0) 13) ≤ (0) then J_X5_forgetMarks_28 b0 fu   (x0) (σ) else cll (m_X5_clean b0 fu (x0) (x1) (σ)) (fun v10 ρ11 => ltb ((x1) + Int32.ofInt 1) (fun y13 => rc2 (x0) (y13) (ρ11)))))
def m_X5_forgetMarks (b0 fu : Nat) (a0 : Nat) (σ : tM) : Option ((Unit) × tM) := grw σ (L_X5_forgetMarks_2 b0 fu  (fu) (a0) (0) (σ))
set_option maxRecDepth 100000 in
set_option maxHeartbeats 1000000 in
theorem j_X5_forgetMarks_28 {p : Program} {l : Launch} {e : Env} {s : State} {m : MethodId} {args : Array Value} {below : List Frame} {meth : Method} {c : Code} {D : va_G} {aC : Nat → ClassId} {b0 fu : Nat} {σ0 τ : tM} {v : Unit}  (C : tCx p s m args meth c yX5_forgetMarks.cls cX5_forgetMarks 2 none D aC b0 σ0) (htab : ∀ x ∈ c.exceptionTable.toList, False) (hin : meth.name = yX5_forgetMarks.name)  {x0 : Nat} {σ : tM} (hm : J_X5_forgetMarks_28 b0 fu  x0 σ = some (v, τ)) : tX p l e s m args below meth c 2 1 22 D aC b0 σ0 (.inl none) τ 28 [(0, .ref (x0))] [] σ := by
  unfold J_X5_forgetMarks_28 at hm
  refine zx_aload_n C dX5_forgetMarks_28 0 rfl ?_
  refine zx_aload_n C dX5_forgetMarks_29 0 rfl ?_
  obtain ⟨k4, i5, hm⟩ := ckO_e hm
  refine zx_get (j := 16) C tC_5 k4 i5 ⟨by decide, Or.inl W_1_119⟩ dX5_forgetMarks_30 (.int (tI (σ) (x0) 16)) rfl ?_
  obtain ⟨v6, ρ7, h8, hm⟩ := cll_e hm
  refine zx_callV (σ := σ) C [.int (tI (σ) (x0) 16)] tC_5 k4 i5 Y_X5_emptyGroup W_2_123 W_2_124 W_2_125 (c_X5_emptyGroup h8) (by decide) (by decide) rfl (Nat.le_of_ble_eq_true rfl) dX5_forgetMarks_33 rfl ?_
  obtain ⟨rfl, rfl⟩ := ret_e hm
  exact zx_vret C rfl rfl rfl dX5_forgetMarks_36
set_option maxRecDepth 100000 in
set_option maxHeartbeats 1000000 in
theorem l_X5_forgetMarks_2 {p : Program} {l : Launch} {e : Env} {s : State} {m : MethodId} {args : Array Value} {below : List Frame} {meth : Method} {c : Code} {D : va_G} {aC : Nat → ClassId} {b0 fu : Nat} {σ0 τ : tM} {v : Unit}  (C : tCx p s m args meth c yX5_forgetMarks.cls cX5_forgetMarks 2 none D aC b0 σ0) (htab : ∀ x ∈ c.exceptionTable.toList, False) (hin : meth.name = yX5_forgetMarks.name)  : ∀ (n : Nat) (x0 : Nat) (x1 : Int32) (σ : tM), L_X5_forgetMarks_2 b0 fu  n x0 x1 σ = some (v, τ) → tX p l e s m args below meth c 2 1 22 D aC b0 σ0 (.inl none) τ 2 [(0, .ref (x0)), (1, .int (x1))] [] σ := by
  intro n
  induction n with
  | zero => intro x0 x1 σ hm; unfold L_X5_forgetMarks_2 at hm; cases hm
  | succ n ih =>
    intro x0 x1 σ hm
    unfold L_X5_forgetMarks_2 at hm
    obtain ⟨rc2, hrc⟩ : ∃ z, z = L_X5_forgetMarks_2 b0 fu  n := ⟨_, rfl⟩
    replace hm := ltb_e hm hrc
    rw [← hrc] at ih
    have hrc2 := ih
    clear ih hrc
    refine zx_iload_n C dX5_forgetMarks_2 1 rfl ?_
    refine zx_aload_n C dX5_forgetMarks_3 0 rfl ?_
    obtain ⟨k1, i2, hm⟩ := ckO_e hm
    refine zx_get (j := 7) C tC_5 k1 i2 ⟨by decide, Or.inl W_1_104⟩ dX5_forgetMarks_4 (.int (tI (σ) (x0) 7)) rfl ?_
    refine zx_icmp_ge C 28 dX5_forgetMarks_7 (by decide) (fun c3 => ?_) (fun c3 => ?_)
    · replace hm := ip_e hm c3
      exact zx_lv [0] [(0, .ref (x0))] rfl (j_X5_forgetMarks_28 C htab hin    hm)
    · replace hm := in_e hm c3
      refine zx_aload_n C dX5_forgetMarks_10 0 rfl ?_
      refine zx_get (j := 13) C tC_5 k1 i2 ⟨by decide, Or.inl W_1_115⟩ dX5_forgetMarks_11 (.int (tI (σ) (x0) 13)) rfl ?_
      refine zx_if_le C 28 dX5_forgetMarks_14 (by decide) (fun c9 => ?_) (fun c9 => ?_)
      · replace hm := ip_e hm c9
        exact zx_lv [0] [(0, .ref (x0))] rfl (j_X5_forgetMarks_28 C htab hin    hm)
      · replace hm := in_e hm c9
        refine zx_aload_n C dX5_forgetMarks_17 0 rfl ?_
        refine zx_iload_n C dX5_forgetMarks_18 1 rfl ?_
        obtain ⟨v10, ρ11, h12, hm⟩ := cll_e hm
        refine zx_callV (σ := σ) C [.int (x1)] tC_5 k1 i2 Y_X5_clean W_2_119 W_2_120 W_2_121 (c_X5_clean h12) (by decide) (by decide) rfl (Nat.le_of_ble_eq_true rfl) dX5_forgetMarks_19 rfl ?_
        obtain ⟨y13, hy13⟩ : ∃ z : Int32, z = (x1) + Int32.ofInt 1 := ⟨_, rfl⟩
        replace hm := ltb_e hm hy13
        refine zx_iinc C [(1, .int (y13)), (0, .ref (x0))] dX5_forgetMarks_22 1 rfl hy13.symm (by decide) rfl ?_
        refine zx_goto C 2 dX5_forgetMarks_25 (by decide) ?_
        exact zx_lv [1, 0] [(0, .ref (x0)), (1, .int (y13))] rfl (hrc2 _ _ _ hm)
set_option maxRecDepth 100000 in
set_option maxHeartbeats 1000000 in
theorem c_X5_forgetMarks {l : Launch} {D : va_G} {aC : Nat → ClassId} {b0 fu : Nat} {a0 : Nat} {σ τ : tM} {v : Unit} (hm : m_X5_forgetMarks b0 fu a0 σ = some (v, τ)) : tMt l D aC b0 yX5_forgetMarks (Cond.code yX5_forgetMarks cX5_forgetMarks 2 none) 1 22 [.ref (a0)] σ (.inl none) τ := by
  unfold m_X5_forgetMarks at hm
  obtain ⟨hg, hm⟩ := grw_e hm
  refine tMt_of (n := 0) rfl (Nat.le_of_ble_eq_true rfl) hg ?_
  intro p e s m below meth c C htab hin
  refine zx_lv [0] [(0, .ref (a0))] rfl ?_
  refine zx_iconst (v := 0) C dX5_forgetMarks_0 (by decide) ?_
  refine zx_istore_n C [(1, .int (0)), (0, .ref (a0))] dX5_forgetMarks_1 rfl (by decide) rfl ?_
  exact zx_lv [1, 0] [(0, .ref (a0)), (1, .int (0))] rfl (l_X5_forgetMarks_2 C htab hin  _ _ _ _ hm)
abbrev cX5_readMap : ByteArray := prog_7_method_5_code
def yX5_readMap : MethodName := ⟨"SyncTree$Space", "readMap", "()V"⟩
theorem Y_X5_readMap : tY yX5_readMap cX5_readMap 4 none 0 := ⟨W_2_139, W_1_3, ⟨by decide +kernel, by decide +kernel⟩, by decide +kernel⟩
theorem dX5_readMap_0 : decode cX5_readMap 0 = .ok (.aload_n 0, 1) := by decide +kernel
theorem dX5_readMap_1 : decode cX5_readMap 1 = .ok (.invokevirtual 36, 3) := by decide +kernel
theorem dX5_readMap_4 : decode cX5_readMap 4 = .ok (.aload_n 0, 1) := by decide +kernel
theorem dX5_readMap_5 : decode cX5_readMap 5 = .ok (.iconst 0, 1) := by decide +kernel
theorem dX5_readMap_6 : decode cX5_readMap 6 = .ok (.putfield 84, 3) := by decide +kernel
theorem dX5_readMap_9 : decode cX5_readMap 9 = .ok (.aload_n 0, 1) := by decide +kernel
theorem dX5_readMap_10 : decode cX5_readMap 10 = .ok (.iconst 0, 1) := by decide +kernel
theorem dX5_readMap_11 : decode cX5_readMap 11 = .ok (.putfield 87, 3) := by decide +kernel
theorem dX5_readMap_14 : decode cX5_readMap 14 = .ok (.aload_n 0, 1) := by decide +kernel
theorem dX5_readMap_15 : decode cX5_readMap 15 = .ok (.bipush 34, 2) := by decide +kernel
theorem dX5_readMap_17 : decode cX5_readMap 17 = .ok (.putfield 90, 3) := by decide +kernel
theorem dX5_readMap_20 : decode cX5_readMap 20 = .ok (.bipush 34, 2) := by decide +kernel
theorem dX5_readMap_22 : decode cX5_readMap 22 = .ok (.istore_n 1, 1) := by decide +kernel
theorem dX5_readMap_23 : decode cX5_readMap 23 = .ok (.iload_n 1, 1) := by decide +kernel
theorem dX5_readMap_24 : decode cX5_readMap 24 = .ok (.aload_n 0, 1) := by decide +kernel
theorem dX5_readMap_25 : decode cX5_readMap 25 = .ok (.getfield 48, 3) := by decide +kernel
theorem dX5_readMap_28 : decode cX5_readMap 28 = .ok (.if_icmp .ge 74, 3) := by decide +kernel
theorem dX5_readMap_31 : decode cX5_readMap 31 = .ok (.iload_n 1, 1) := by decide +kernel
theorem dX5_readMap_32 : decode cX5_readMap 32 = .ok (.bipush 34, 2) := by decide +kernel
theorem dX5_readMap_34 : decode cX5_readMap 34 = .ok (.isub, 1) := by decide +kernel
theorem dX5_readMap_35 : decode cX5_readMap 35 = .ok (.istore_n 2, 1) := by decide +kernel
theorem dX5_readMap_36 : decode cX5_readMap 36 = .ok (.aload_n 0, 1) := by decide +kernel
theorem dX5_readMap_37 : decode cX5_readMap 37 = .ok (.iconst 1, 1) := by decide +kernel
theorem dX5_readMap_38 : decode cX5_readMap 38 = .ok (.iload_n 2, 1) := by decide +kernel
theorem dX5_readMap_39 : decode cX5_readMap 39 = .ok (.bipush 6, 2) := by decide +kernel
theorem dX5_readMap_41 : decode cX5_readMap 41 = .ok (.ishr, 1) := by decide +kernel
theorem dX5_readMap_42 : decode cX5_readMap 42 = .ok (.invokevirtual 93, 3) := by decide +kernel
theorem dX5_readMap_45 : decode cX5_readMap 45 = .ok (.iload_n 2, 1) := by decide +kernel
theorem dX5_readMap_46 : decode cX5_readMap 46 = .ok (.bipush 63, 2) := by decide +kernel
theorem dX5_readMap_48 : decode cX5_readMap 48 = .ok (.iand, 1) := by decide +kernel
theorem dX5_readMap_49 : decode cX5_readMap 49 = .ok (.lushr, 1) := by decide +kernel
theorem dX5_readMap_50 : decode cX5_readMap 50 = .ok (.lconst 1, 1) := by decide +kernel
theorem dX5_readMap_51 : decode cX5_readMap 51 = .ok (.land, 1) := by decide +kernel
theorem dX5_readMap_52 : decode cX5_readMap 52 = .ok (.lconst 0, 1) := by decide +kernel
theorem dX5_readMap_53 : decode cX5_readMap 53 = .ok (.lcmp, 1) := by decide +kernel
theorem dX5_readMap_54 : decode cX5_readMap 54 = .ok (.ifCond .eq 7, 3) := by decide +kernel
theorem dX5_readMap_57 : decode cX5_readMap 57 = .ok (.iconst 1, 1) := by decide +kernel
theorem dX5_readMap_58 : decode cX5_readMap 58 = .ok (.goto 4, 3) := by decide +kernel
theorem dX5_readMap_61 : decode cX5_readMap 61 = .ok (.iconst 0, 1) := by decide +kernel
theorem dX5_readMap_62 : decode cX5_readMap 62 = .ok (.istore_n 3, 1) := by decide +kernel
theorem dX5_readMap_63 : decode cX5_readMap 63 = .ok (.aload_n 0, 1) := by decide +kernel
theorem dX5_readMap_64 : decode cX5_readMap 64 = .ok (.getfield 16, 3) := by decide +kernel
theorem dX5_readMap_67 : decode cX5_readMap 67 = .ok (.iload_n 1, 1) := by decide +kernel
theorem dX5_readMap_68 : decode cX5_readMap 68 = .ok (.iload_n 3, 1) := by decide +kernel
theorem dX5_readMap_69 : decode cX5_readMap 69 = .ok (.ifCond .eq 7, 3) := by decide +kernel
theorem dX5_readMap_72 : decode cX5_readMap 72 = .ok (.iconst (-1), 1) := by decide +kernel
theorem dX5_readMap_73 : decode cX5_readMap 73 = .ok (.goto 4, 3) := by decide +kernel
theorem dX5_readMap_76 : decode cX5_readMap 76 = .ok (.iconst 0, 1) := by decide +kernel
theorem dX5_readMap_77 : decode cX5_readMap 77 = .ok (.iastore, 1) := by decide +kernel
theorem dX5_readMap_78 : decode cX5_readMap 78 = .ok (.aload_n 0, 1) := by decide +kernel
theorem dX5_readMap_79 : decode cX5_readMap 79 = .ok (.dup, 1) := by decide +kernel
theorem dX5_readMap_80 : decode cX5_readMap 80 = .ok (.getfield 84, 3) := by decide +kernel
theorem dX5_readMap_83 : decode cX5_readMap 83 = .ok (.iload_n 3, 1) := by decide +kernel
theorem dX5_readMap_84 : decode cX5_readMap 84 = .ok (.ifCond .eq 7, 3) := by decide +kernel
theorem dX5_readMap_87 : decode cX5_readMap 87 = .ok (.iconst 0, 1) := by decide +kernel
theorem dX5_readMap_88 : decode cX5_readMap 88 = .ok (.goto 4, 3) := by decide +kernel
theorem dX5_readMap_91 : decode cX5_readMap 91 = .ok (.iconst 1, 1) := by decide +kernel
theorem dX5_readMap_92 : decode cX5_readMap 92 = .ok (.iadd, 1) := by decide +kernel
theorem dX5_readMap_93 : decode cX5_readMap 93 = .ok (.putfield 84, 3) := by decide +kernel
theorem dX5_readMap_96 : decode cX5_readMap 96 = .ok (.iinc 1 1, 3) := by decide +kernel
theorem dX5_readMap_99 : decode cX5_readMap 99 = .ok (.goto (-76), 3) := by decide +kernel
theorem dX5_readMap_102 : decode cX5_readMap 102 = .ok (.return_, 1) := by decide +kernel
def J_X5_readMap_92 (b0 fu : Nat) (rc23 : Nat → Int32 → tM → Option ((Unit) × tM)) (x0 : Nat) (x1 : Int32) (s0 : Nat) (s1 : Int32) (s2 : Int32) (σ : tM) : Option ((Unit) × tM) := ckO b0 (σ) (s0) 5 (ltb ((x1) + Int32.ofInt 1) (fun y30 => rc23 (x0) (y30) (sI (σ) (s0) 9 ((s1) + (s2)))))
def J_X5_readMap_77 (b0 fu : Nat) (rc23 : Nat → Int32 → tM → Option ((Unit) × tM)) (x0 : Nat) (x1 : Int32) (x3 : Int32) (s0 : Nat) (s1 : Int32) (s2 : Int32) (σ : tM) : Option ((Unit) × tM) := ckR b0 (σ) (s0) 0 (fun n23 => ckI (s1) (n23) (ckO b0 (sI (σ) (s0) ((s1).toNatClampNeg) (s2)) (x0) 5 (if (x3) = (0) then J_X5_readMap_92 b0 fu rc23  (x0) (x1) (x0) (tI (sI (σ) (s0) ((s1).toNatClampNeg) (s2)) (x0) 9) (1) (sI (σ) (s0) ((s1).toNatClampNeg) (s2)) else J_X5_readMap_92 b0 fu rc23  (x0) (x1) (x0) (tI (sI (σ) (s0) ((s1).toNatClampNeg) (s2)) (x0) 9) (0) (sI (σ) (s0) ((s1).toNatClampNeg) (s2)))))
def J_X5_readMap_62 (b0 fu : Nat) (rc23 : Nat → Int32 → tM → Option ((Unit) × tM)) (x0 : Nat) (x1 : Int32) (s0 : Int32) (σ : tM) : Option ((Unit) × tM) := ckO b0 (σ) (x0) 5 (osm (tA (σ) (x0) 1) (fun a18 => if (s0) = (0) then J_X5_readMap_77 b0 fu rc23  (x0) (x1) (s0) (a18) (x1) (0) (σ) else J_X5_readMap_77 b0 fu rc23  (x0) (x1) (s0) (a18) (x1) ((-1)) (σ)))
def L_X5_readMap_23 (b0 fu : Nat)  : Nat → Nat → Int32 → tM → Option ((Unit) × tM)
  | 0, _, _, _ => none
  | n + 1, x0, x1, σ => ltb (L_X5_readMap_23 b0 fu  n) (fun rc23 => ckO b0 (σ) (x0) 5 (if (tI (σ) (x0) 7) ≤ (x1) then some ((), σ) else ltb (((x1) - (34) : Int32)) (fun y11 => cll (m_X5_word b0 fu (x0) (1) ((y11) >>> (((6 : Int32)) &&& 31)) (σ)) (fun v12 ρ13 => if (lg_cmp ((((v12).toUInt64 >>> (((y11) &&& (63)).toInt64.toUInt64 &&& Int64.toUInt64 63)).toInt64) &&& (1)) (0)) = (0) then J_X5_readMap_62 b0 fu rc23  (x0) (x1) (0) (ρ13) else J_X5_readMap_62 b0 fu rc23  (x0) (x1) (1) (ρ13)))))
def m_X5_readMap (b0 fu : Nat) (a0 : Nat) (σ : tM) : Option ((Unit) × tM) := grw σ (ckO b0 (σ) (a0) 5 (cll (m_X5_forgetMarks b0 fu (a0) (σ)) (fun v3 ρ4 => ckO b0 (ρ4) (a0) 5 (L_X5_readMap_23 b0 fu  (fu) (a0) (34) (sI (sI (sI (ρ4) (a0) 9 (0)) (a0) 10 (0)) (a0) 14 (34))))))
set_option maxRecDepth 100000 in
set_option maxHeartbeats 1000000 in
theorem j_X5_readMap_92 {p : Program} {l : Launch} {e : Env} {s : State} {m : MethodId} {args : Array Value} {below : List Frame} {meth : Method} {c : Code} {D : va_G} {aC : Nat → ClassId} {b0 fu : Nat} {σ0 τ : tM} {v : Unit} {rc23 : Nat → Int32 → tM → Option ((Unit) × tM)} (C : tCx p s m args meth c yX5_readMap.cls cX5_readMap 4 none D aC b0 σ0) (htab : ∀ x ∈ c.exceptionTable.toList, False) (hin : meth.name = yX5_readMap.name) (hrc23 : ∀ (x0 : Nat) (x1 : Int32) (ρ : tM), rc23 x0 x1 ρ = some (v, τ) → tX p l e s m args below meth c 4 2 43 D aC b0 σ0 (.inl none) τ 23 [(0, .ref (x0)), (1, .int (x1))] [] ρ) {x0 : Nat} {x1 : Int32} {s0 : Nat} {s1 : Int32} {s2 : Int32} {σ : tM} (hm : J_X5_readMap_92 b0 fu rc23 x0 x1 s0 s1 s2 σ = some (v, τ)) : tX p l e s m args below meth c 4 2 43 D aC b0 σ0 (.inl none) τ 92 [(0, .ref (x0)), (1, .int (x1))] [.int (s2), .int (s1), .ref (s0)] σ := by
  unfold J_X5_readMap_92 at hm
  refine zx_iadd C dX5_readMap_92 ?_
  obtain ⟨k28, i29, hm⟩ := ckO_e hm
  refine zx_put (j := 9) (ρ := sI (σ) (s0) 9 ((s1) + (s2))) C tC_5 k28 i29 ⟨by decide, Or.inl W_1_107⟩ rfl rfl rfl (sI_ok (fun _ => rfl)) dX5_readMap_93 ?_
  obtain ⟨y30, hy30⟩ : ∃ z : Int32, z = (x1) + Int32.ofInt 1 := ⟨_, rfl⟩
  replace hm := ltb_e hm hy30
  refine zx_iinc C [(1, .int (y30)), (0, .ref (x0))] dX5_readMap_96 1 rfl hy30.symm (by decide) rfl ?_
  refine zx_goto C 23 dX5_readMap_99 (by decide) ?_
  exact zx_lv [1, 0] [(0, .ref (x0)), (1, .int (y30))] rfl (hrc23 _ _ _ hm)
set_option maxRecDepth 100000 in
set_option maxHeartbeats 1000000 in
theorem j_X5_readMap_77 {p : Program} {l : Launch} {e : Env} {s : State} {m : MethodId} {args : Array Value} {below : List Frame} {meth : Method} {c : Code} {D : va_G} {aC : Nat → ClassId} {b0 fu : Nat} {σ0 τ : tM} {v : Unit} {rc23 : Nat → Int32 → tM → Option ((Unit) × tM)} (C : tCx p s m args meth c yX5_readMap.cls cX5_readMap 4 none D aC b0 σ0) (htab : ∀ x ∈ c.exceptionTable.toList, False) (hin : meth.name = yX5_readMap.name) (hrc23 : ∀ (x0 : Nat) (x1 : Int32) (ρ : tM), rc23 x0 x1 ρ = some (v, τ) → tX p l e s m args below meth c 4 2 43 D aC b0 σ0 (.inl none) τ 23 [(0, .ref (x0)), (1, .int (x1))] [] ρ) {x0 : Nat} {x1 : Int32} {x3 : Int32} {s0 : Nat} {s1 : Int32} {s2 : Int32} {σ : tM} (hm : J_X5_readMap_77 b0 fu rc23 x0 x1 x3 s0 s1 s2 σ = some (v, τ)) : tX p l e s m args below meth c 4 2 43 D aC b0 σ0 (.inl none) τ 77 [(0, .ref (x0)), (1, .int (x1)), (3, .int (x3))] [.int (s2), .int (s1), .ref (s0)] σ := by
  unfold J_X5_readMap_77 at hm
  obtain ⟨n23, k21, i22, hm⟩ := ckR_e hm
  obtain ⟨h24, hm⟩ := ckI_e hm
  refine zx_iast C k21 i22 h24 dX5_readMap_77 ?_
  refine zx_aload_n C dX5_readMap_78 0 rfl ?_
  refine zx_dup C dX5_readMap_79 rfl ?_
  obtain ⟨k25, i26, hm⟩ := ckO_e hm
  refine zx_get (j := 9) C tC_5 k25 i26 ⟨by decide, Or.inl W_1_107⟩ dX5_readMap_80 (.int (tI (sI (σ) (s0) ((s1).toNatClampNeg) (s2)) (x0) 9)) rfl ?_
  refine zx_iload_n C dX5_readMap_83 2 rfl ?_
  refine zx_if_eq C 91 dX5_readMap_84 (by decide) (fun c27 => ?_) (fun c27 => ?_)
  · replace hm := ip_e hm c27
    refine zx_iconst (v := 1) C dX5_readMap_91 (by decide) ?_
    exact zx_lv [0, 1] [(0, .ref (x0)), (1, .int (x1))] rfl (j_X5_readMap_92 C htab hin hrc23   hm)
  · replace hm := in_e hm c27
    refine zx_iconst (v := 0) C dX5_readMap_87 (by decide) ?_
    refine zx_goto C 92 dX5_readMap_88 (by decide) ?_
    exact zx_lv [0, 1] [(0, .ref (x0)), (1, .int (x1))] rfl (j_X5_readMap_92 C htab hin hrc23   hm)
set_option maxRecDepth 100000 in
set_option maxHeartbeats 1000000 in
theorem j_X5_readMap_62 {p : Program} {l : Launch} {e : Env} {s : State} {m : MethodId} {args : Array Value} {below : List Frame} {meth : Method} {c : Code} {D : va_G} {aC : Nat → ClassId} {b0 fu : Nat} {σ0 τ : tM} {v : Unit} {rc23 : Nat → Int32 → tM → Option ((Unit) × tM)} (C : tCx p s m args meth c yX5_readMap.cls cX5_readMap 4 none D aC b0 σ0) (htab : ∀ x ∈ c.exceptionTable.toList, False) (hin : meth.name = yX5_readMap.name) (hrc23 : ∀ (x0 : Nat) (x1 : Int32) (ρ : tM), rc23 x0 x1 ρ = some (v, τ) → tX p l e s m args below meth c 4 2 43 D aC b0 σ0 (.inl none) τ 23 [(0, .ref (x0)), (1, .int (x1))] [] ρ) {x0 : Nat} {x1 : Int32} {s0 : Int32} {σ : tM} (hm : J_X5_readMap_62 b0 fu rc23 x0 x1 s0 σ = some (v, τ)) : tX p l e s m args below meth c 4 2 43 D aC b0 σ0 (.inl none) τ 62 [(0, .ref (x0)), (1, .int (x1))] [.int (s0)] σ := by
  unfold J_X5_readMap_62 at hm
  refine zx_istore_n C [(3, .int (s0)), (0, .ref (x0)), (1, .int (x1))] dX5_readMap_62 rfl (by decide) rfl ?_
  refine zx_aload_n C dX5_readMap_63 1 rfl ?_
  obtain ⟨k16, i17, hm⟩ := ckO_e hm
  obtain ⟨a18, h19, hm⟩ := osm_e hm
  refine zx_get (j := 1) C tC_5 k16 i17 ⟨by decide, Or.inl W_1_97⟩ dX5_readMap_64 (.ref a18) (rf_s h19) ?_
  refine zx_iload_n C dX5_readMap_67 2 rfl ?_
  refine zx_iload_n C dX5_readMap_68 0 rfl ?_
  refine zx_if_eq C 76 dX5_readMap_69 (by decide) (fun c20 => ?_) (fun c20 => ?_)
  · replace hm := ip_e hm c20
    refine zx_iconst (v := 0) C dX5_readMap_76 (by decide) ?_
    exact zx_lv [1, 2, 0] [(0, .ref (x0)), (1, .int (x1)), (3, .int (s0))] rfl (j_X5_readMap_77 C htab hin hrc23   hm)
  · replace hm := in_e hm c20
    refine zx_iconst (v := (-1)) C dX5_readMap_72 (by decide) ?_
    refine zx_goto C 77 dX5_readMap_73 (by decide) ?_
    exact zx_lv [1, 2, 0] [(0, .ref (x0)), (1, .int (x1)), (3, .int (s0))] rfl (j_X5_readMap_77 C htab hin hrc23   hm)
set_option maxRecDepth 100000 in
set_option maxHeartbeats 1000000 in
theorem l_X5_readMap_23 {p : Program} {l : Launch} {e : Env} {s : State} {m : MethodId} {args : Array Value} {below : List Frame} {meth : Method} {c : Code} {D : va_G} {aC : Nat → ClassId} {b0 fu : Nat} {σ0 τ : tM} {v : Unit}  (C : tCx p s m args meth c yX5_readMap.cls cX5_readMap 4 none D aC b0 σ0) (htab : ∀ x ∈ c.exceptionTable.toList, False) (hin : meth.name = yX5_readMap.name)  : ∀ (n : Nat) (x0 : Nat) (x1 : Int32) (σ : tM), L_X5_readMap_23 b0 fu  n x0 x1 σ = some (v, τ) → tX p l e s m args below meth c 4 2 43 D aC b0 σ0 (.inl none) τ 23 [(0, .ref (x0)), (1, .int (x1))] [] σ := by
  intro n
  induction n with
  | zero => intro x0 x1 σ hm; unfold L_X5_readMap_23 at hm; cases hm
  | succ n ih =>
    intro x0 x1 σ hm
    unfold L_X5_readMap_23 at hm
    obtain ⟨rc23, hrc⟩ : ∃ z, z = L_X5_readMap_23 b0 fu  n := ⟨_, rfl⟩
    replace hm := ltb_e hm hrc
    rw [← hrc] at ih
    have hrc23 := ih
    clear ih hrc
    refine zx_iload_n C dX5_readMap_23 1 rfl ?_
    refine zx_aload_n C dX5_readMap_24 0 rfl ?_
    obtain ⟨k8, i9, hm⟩ := ckO_e hm
    refine zx_get (j := 7) C tC_5 k8 i9 ⟨by decide, Or.inl W_1_104⟩ dX5_readMap_25 (.int (tI (σ) (x0) 7)) rfl ?_
    refine zx_icmp_ge C 102 dX5_readMap_28 (by decide) (fun c10 => ?_) (fun c10 => ?_)
    · replace hm := ip_e hm c10
      obtain ⟨rfl, rfl⟩ := ret_e hm
      exact zx_vret C rfl rfl rfl dX5_readMap_102
    · replace hm := in_e hm c10
      refine zx_iload_n C dX5_readMap_31 1 rfl ?_
      refine zx_bipush (v := 34) C dX5_readMap_32 (by decide) ?_
      refine zx_isub C dX5_readMap_34 ?_
      refine zx_topi (fun y11 hy11 => ?_)
      replace hm := ltb_e hm hy11
      refine zx_istore_n C [(2, .int (y11)), (0, .ref (x0)), (1, .int (x1))] dX5_readMap_35 rfl (by decide) rfl ?_
      refine zx_aload_n C dX5_readMap_36 1 rfl ?_
      refine zx_iconst (v := 1) C dX5_readMap_37 (by decide) ?_
      refine zx_iload_n C dX5_readMap_38 0 rfl ?_
      refine zx_bipush (v := 6) C dX5_readMap_39 (by decide) ?_
      refine zx_ishr C dX5_readMap_41 ?_
      obtain ⟨v12, ρ13, h14, hm⟩ := cll_e hm
      refine zx_callV (σ := σ) C [.int (1), .int ((y11) >>> (((6 : Int32)) &&& 31))] tC_5 k8 i9 Y_X5_word W_2_140 W_2_141 W_2_142 (c_X5_word h14) (by decide) (by decide) rfl (Nat.le_of_ble_eq_true rfl) dX5_readMap_42 rfl ?_
      refine zx_iload_n C dX5_readMap_45 0 rfl ?_
      refine zx_bipush (v := 63) C dX5_readMap_46 (by decide) ?_
      refine zx_iand C dX5_readMap_48 ?_
      refine zx_lushr C dX5_readMap_49 ?_
      refine zx_lconst (v := 1) C dX5_readMap_50 (by decide) ?_
      refine zx_land C dX5_readMap_51 ?_
      refine zx_lconst (v := 0) C dX5_readMap_52 (by decide) ?_
      refine zx_lcmp C dX5_readMap_53 ?_
      refine zx_if_eq C 61 dX5_readMap_54 (by decide) (fun c15 => ?_) (fun c15 => ?_)
      · replace hm := ip_e hm c15
        refine zx_iconst (v := 0) C dX5_readMap_61 (by decide) ?_
        exact zx_lv [1, 2] [(0, .ref (x0)), (1, .int (x1))] rfl (j_X5_readMap_62 C htab hin hrc23   hm)
      · replace hm := in_e hm c15
        refine zx_iconst (v := 1) C dX5_readMap_57 (by decide) ?_
        refine zx_goto C 62 dX5_readMap_58 (by decide) ?_
        exact zx_lv [1, 2] [(0, .ref (x0)), (1, .int (x1))] rfl (j_X5_readMap_62 C htab hin hrc23   hm)
set_option maxRecDepth 100000 in
set_option maxHeartbeats 1000000 in
theorem c_X5_readMap {l : Launch} {D : va_G} {aC : Nat → ClassId} {b0 fu : Nat} {a0 : Nat} {σ τ : tM} {v : Unit} (hm : m_X5_readMap b0 fu a0 σ = some (v, τ)) : tMt l D aC b0 yX5_readMap (Cond.code yX5_readMap cX5_readMap 4 none) 2 43 [.ref (a0)] σ (.inl none) τ := by
  unfold m_X5_readMap at hm
  obtain ⟨hg, hm⟩ := grw_e hm
  refine tMt_of (n := 0) rfl (Nat.le_of_ble_eq_true rfl) hg ?_
  intro p e s m below meth c C htab hin
  refine zx_lv [0] [(0, .ref (a0))] rfl ?_
  refine zx_aload_n C dX5_readMap_0 0 rfl ?_
  obtain ⟨k1, i2, hm⟩ := ckO_e hm
  obtain ⟨v3, ρ4, h5, hm⟩ := cll_e hm
  refine zx_callV (σ := σ) C [] tC_5 k1 i2 Y_X5_forgetMarks W_2_115 W_2_117 Wp_4 (c_X5_forgetMarks h5) (by decide) (by decide) rfl (Nat.le_of_ble_eq_true rfl) dX5_readMap_1 rfl ?_
  refine zx_aload_n C dX5_readMap_4 0 rfl ?_
  refine zx_iconst (v := 0) C dX5_readMap_5 (by decide) ?_
  obtain ⟨k6, i7, hm⟩ := ckO_e hm
  refine zx_put (j := 9) (ρ := sI (ρ4) (a0) 9 (0)) C tC_5 k6 i7 ⟨by decide, Or.inl W_1_107⟩ rfl rfl rfl (sI_ok (fun _ => rfl)) dX5_readMap_6 ?_
  refine zx_aload_n C dX5_readMap_9 0 rfl ?_
  refine zx_iconst (v := 0) C dX5_readMap_10 (by decide) ?_
  refine zx_put (j := 10) (ρ := sI (sI (ρ4) (a0) 9 (0)) (a0) 10 (0)) C tC_5 k6 i7 ⟨by decide, Or.inl W_1_110⟩ rfl rfl rfl (sI_ok (fun _ => rfl)) dX5_readMap_11 ?_
  refine zx_aload_n C dX5_readMap_14 0 rfl ?_
  refine zx_bipush (v := 34) C dX5_readMap_15 (by decide) ?_
  refine zx_put (j := 14) (ρ := sI (sI (sI (ρ4) (a0) 9 (0)) (a0) 10 (0)) (a0) 14 (34)) C tC_5 k6 i7 ⟨by decide, Or.inl W_1_117⟩ rfl rfl rfl (sI_ok (fun _ => rfl)) dX5_readMap_17 ?_
  refine zx_bipush (v := 34) C dX5_readMap_20 (by decide) ?_
  refine zx_istore_n C [(1, .int (34)), (0, .ref (a0))] dX5_readMap_22 rfl (by decide) rfl ?_
  exact zx_lv [1, 0] [(0, .ref (a0)), (1, .int (34))] rfl (l_X5_readMap_23 C htab hin  _ _ _ _ hm)
abbrev cX5_setWord : ByteArray := prog_7_method_13_code
def yX5_setWord : MethodName := ⟨"SyncTree$Space", "setWord", "(IIJ)V"⟩
theorem Y_X5_setWord : tY yX5_setWord cX5_setWord 5 none 3 := ⟨W_4_219, W_1_3, ⟨by decide +kernel, by decide +kernel⟩, by decide +kernel⟩
theorem dX5_setWord_0 : decode cX5_setWord 0 = .ok (.iload_n 1, 1) := by decide +kernel
theorem dX5_setWord_1 : decode cX5_setWord 1 = .ok (.ifCond .le 38, 3) := by decide +kernel
theorem dX5_setWord_4 : decode cX5_setWord 4 = .ok (.iload_n 1, 1) := by decide +kernel
theorem dX5_setWord_5 : decode cX5_setWord 5 = .ok (.aload_n 0, 1) := by decide +kernel
theorem dX5_setWord_6 : decode cX5_setWord 6 = .ok (.getfield 48, 3) := by decide +kernel
theorem dX5_setWord_9 : decode cX5_setWord 9 = .ok (.if_icmp .ge 30, 3) := by decide +kernel
theorem dX5_setWord_12 : decode cX5_setWord 12 = .ok (.iload_n 2, 1) := by decide +kernel
theorem dX5_setWord_13 : decode cX5_setWord 13 = .ok (.ifCond .lt 26, 3) := by decide +kernel
theorem dX5_setWord_16 : decode cX5_setWord 16 = .ok (.iload_n 2, 1) := by decide +kernel
theorem dX5_setWord_17 : decode cX5_setWord 17 = .ok (.bipush 32, 2) := by decide +kernel
theorem dX5_setWord_19 : decode cX5_setWord 19 = .ok (.if_icmp .ge 20, 3) := by decide +kernel
theorem dX5_setWord_22 : decode cX5_setWord 22 = .ok (.aload_n 0, 1) := by decide +kernel
theorem dX5_setWord_23 : decode cX5_setWord 23 = .ok (.getfield 10, 3) := by decide +kernel
theorem dX5_setWord_26 : decode cX5_setWord 26 = .ok (.iload_n 1, 1) := by decide +kernel
theorem dX5_setWord_27 : decode cX5_setWord 27 = .ok (.bipush 32, 2) := by decide +kernel
theorem dX5_setWord_29 : decode cX5_setWord 29 = .ok (.imul, 1) := by decide +kernel
theorem dX5_setWord_30 : decode cX5_setWord 30 = .ok (.iload_n 2, 1) := by decide +kernel
theorem dX5_setWord_31 : decode cX5_setWord 31 = .ok (.iadd, 1) := by decide +kernel
theorem dX5_setWord_32 : decode cX5_setWord 32 = .ok (.lload_n 3, 1) := by decide +kernel
theorem dX5_setWord_33 : decode cX5_setWord 33 = .ok (.lastore, 1) := by decide +kernel
theorem dX5_setWord_34 : decode cX5_setWord 34 = .ok (.aload_n 0, 1) := by decide +kernel
theorem dX5_setWord_35 : decode cX5_setWord 35 = .ok (.iload_n 1, 1) := by decide +kernel
theorem dX5_setWord_36 : decode cX5_setWord 36 = .ok (.invokevirtual 97, 3) := by decide +kernel
theorem dX5_setWord_39 : decode cX5_setWord 39 = .ok (.return_, 1) := by decide +kernel
def J_X5_setWord_39 (b0 fu : Nat)   (σ : tM) : Option ((Unit) × tM) := some ((), σ)
def m_X5_setWord (b0 fu : Nat) (a0 : Nat) (p0 : Int32) (p1 : Int32) (p2 : Int64) (σ : tM) : Option ((Unit) × tM) := grw σ (if (p0) ≤ (0) then J_X5_setWord_39 b0 fu    (σ) else ckO b0 (σ) (a0) 5 (if (tI (σ) (a0) 7) ≤ (p0) then J_X5_setWord_39 b0 fu    (σ) else if (p1) < (0) then J_X5_setWord_39 b0 fu    (σ) else if (32) ≤ (p1) then J_X5_setWord_39 b0 fu    (σ) else osm (tA (σ) (a0) 0) (fun a7 => ckR b0 (σ) (a7) 3 (fun n11 => ckI (((p0) * (32)) + (p1)) (n11) (cll (m_X5_touch b0 fu (a0) (p0) (sL (σ) (a7) ((((p0) * (32)) + (p1)).toNatClampNeg) (p2))) (fun v13 ρ14 => J_X5_setWord_39 b0 fu    (ρ14)))))))
set_option maxRecDepth 100000 in
set_option maxHeartbeats 1000000 in
theorem j_X5_setWord_39 {p : Program} {l : Launch} {e : Env} {s : State} {m : MethodId} {args : Array Value} {below : List Frame} {meth : Method} {c : Code} {D : va_G} {aC : Nat → ClassId} {b0 fu : Nat} {σ0 τ : tM} {v : Unit}  (C : tCx p s m args meth c yX5_setWord.cls cX5_setWord 5 none D aC b0 σ0) (htab : ∀ x ∈ c.exceptionTable.toList, False) (hin : meth.name = yX5_setWord.name)   {σ : tM} (hm : J_X5_setWord_39 b0 fu   σ = some (v, τ)) : tX p l e s m args below meth c 5 1 21 D aC b0 σ0 (.inl none) τ 39 [] [] σ := by
  unfold J_X5_setWord_39 at hm
  obtain ⟨rfl, rfl⟩ := ret_e hm
  exact zx_vret C rfl rfl rfl dX5_setWord_39
set_option maxRecDepth 100000 in
set_option maxHeartbeats 1000000 in
theorem c_X5_setWord {l : Launch} {D : va_G} {aC : Nat → ClassId} {b0 fu : Nat} {a0 : Nat} {p0 : Int32} {p1 : Int32} {p2 : Int64} {σ τ : tM} {v : Unit} (hm : m_X5_setWord b0 fu a0 p0 p1 p2 σ = some (v, τ)) : tMt l D aC b0 yX5_setWord (Cond.code yX5_setWord cX5_setWord 5 none) 1 21 [.ref (a0), .int (p0), .int (p1), .long (p2)] σ (.inl none) τ := by
  unfold m_X5_setWord at hm
  obtain ⟨hg, hm⟩ := grw_e hm
  refine tMt_of (n := 0) rfl (Nat.le_of_ble_eq_true rfl) hg ?_
  intro p e s m below meth c C htab hin
  refine zx_lv [0, 1, 2, 3] [(0, .ref (a0)), (1, .int (p0)), (2, .int (p1)), (3, .long (p2))] rfl ?_
  refine zx_iload_n C dX5_setWord_0 1 rfl ?_
  refine zx_if_le C 39 dX5_setWord_1 (by decide) (fun c1 => ?_) (fun c1 => ?_)
  · replace hm := ip_e hm c1
    exact zx_lv [] [] rfl (j_X5_setWord_39 C htab hin    hm)
  · replace hm := in_e hm c1
    refine zx_iload_n C dX5_setWord_4 1 rfl ?_
    refine zx_aload_n C dX5_setWord_5 0 rfl ?_
    obtain ⟨k2, i3, hm⟩ := ckO_e hm
    refine zx_get (j := 7) C tC_5 k2 i3 ⟨by decide, Or.inl W_1_104⟩ dX5_setWord_6 (.int (tI (σ) (a0) 7)) rfl ?_
    refine zx_icmp_ge C 39 dX5_setWord_9 (by decide) (fun c4 => ?_) (fun c4 => ?_)
    · replace hm := ip_e hm c4
      exact zx_lv [] [] rfl (j_X5_setWord_39 C htab hin    hm)
    · replace hm := in_e hm c4
      refine zx_iload_n C dX5_setWord_12 2 rfl ?_
      refine zx_if_lt C 39 dX5_setWord_13 (by decide) (fun c5 => ?_) (fun c5 => ?_)
      · replace hm := ip_e hm c5
        exact zx_lv [] [] rfl (j_X5_setWord_39 C htab hin    hm)
      · replace hm := in_e hm c5
        refine zx_iload_n C dX5_setWord_16 2 rfl ?_
        refine zx_bipush (v := 32) C dX5_setWord_17 (by decide) ?_
        refine zx_icmp_ge C 39 dX5_setWord_19 (by decide) (fun c6 => ?_) (fun c6 => ?_)
        · replace hm := ip_e hm c6
          exact zx_lv [] [] rfl (j_X5_setWord_39 C htab hin    hm)
        · replace hm := in_e hm c6
          refine zx_aload_n C dX5_setWord_22 0 rfl ?_
          obtain ⟨a7, h8, hm⟩ := osm_e hm
          refine zx_get (j := 0) C tC_5 k2 i3 ⟨by decide, Or.inl W_1_94⟩ dX5_setWord_23 (.ref a7) (rf_s h8) ?_
          refine zx_iload_n C dX5_setWord_26 1 rfl ?_
          refine zx_bipush (v := 32) C dX5_setWord_27 (by decide) ?_
          refine zx_imul C dX5_setWord_29 ?_
          refine zx_iload_n C dX5_setWord_30 2 rfl ?_
          refine zx_iadd C dX5_setWord_31 ?_
          refine zx_lload_n C dX5_setWord_32 3 rfl ?_
          obtain ⟨n11, k9, i10, hm⟩ := ckR_e hm
          obtain ⟨h12, hm⟩ := ckI_e hm
          refine zx_last C k9 i10 h12 dX5_setWord_33 ?_
          refine zx_aload_n C dX5_setWord_34 0 rfl ?_
          refine zx_iload_n C dX5_setWord_35 1 rfl ?_
          obtain ⟨v13, ρ14, h15, hm⟩ := cll_e hm
          refine zx_callV (σ := sL (σ) (a7) ((((p0) * (32)) + (p1)).toNatClampNeg) (p2)) C [.int (p0)] tC_5 k2 i3 Y_X5_touch W_4_215 W_2_157 W_2_158 (c_X5_touch h15) (by decide) (by decide) rfl (Nat.le_of_ble_eq_true rfl) dX5_setWord_36 rfl ?_
          exact zx_lv [] [] rfl (j_X5_setWord_39 C htab hin    hm)
abbrev cX5_release : ByteArray := prog_7_method_25_code
def yX5_release : MethodName := ⟨"SyncTree$Space", "release", "(IZ)V"⟩
theorem Y_X5_release : tY yX5_release cX5_release 3 none 2 := ⟨W_5_49, W_1_3, ⟨by decide +kernel, by decide +kernel⟩, by decide +kernel⟩
theorem dX5_release_0 : decode cX5_release 0 = .ok (.iload_n 1, 1) := by decide +kernel
theorem dX5_release_1 : decode cX5_release 1 = .ok (.bipush 34, 2) := by decide +kernel
theorem dX5_release_3 : decode cX5_release 3 = .ok (.if_icmp .lt 21, 3) := by decide +kernel
theorem dX5_release_6 : decode cX5_release 6 = .ok (.iload_n 1, 1) := by decide +kernel
theorem dX5_release_7 : decode cX5_release 7 = .ok (.aload_n 0, 1) := by decide +kernel
theorem dX5_release_8 : decode cX5_release 8 = .ok (.getfield 48, 3) := by decide +kernel
theorem dX5_release_11 : decode cX5_release 11 = .ok (.if_icmp .ge 13, 3) := by decide +kernel
theorem dX5_release_14 : decode cX5_release 14 = .ok (.aload_n 0, 1) := by decide +kernel
theorem dX5_release_15 : decode cX5_release 15 = .ok (.getfield 16, 3) := by decide +kernel
theorem dX5_release_18 : decode cX5_release 18 = .ok (.iload_n 1, 1) := by decide +kernel
theorem dX5_release_19 : decode cX5_release 19 = .ok (.iaload, 1) := by decide +kernel
theorem dX5_release_20 : decode cX5_release 20 = .ok (.iconst (-1), 1) := by decide +kernel
theorem dX5_release_21 : decode cX5_release 21 = .ok (.if_icmp .eq 4, 3) := by decide +kernel
theorem dX5_release_24 : decode cX5_release 24 = .ok (.return_, 1) := by decide +kernel
theorem dX5_release_25 : decode cX5_release 25 = .ok (.aload_n 0, 1) := by decide +kernel
theorem dX5_release_26 : decode cX5_release 26 = .ok (.getfield 16, 3) := by decide +kernel
theorem dX5_release_29 : decode cX5_release 29 = .ok (.iload_n 1, 1) := by decide +kernel
theorem dX5_release_30 : decode cX5_release 30 = .ok (.aload_n 0, 1) := by decide +kernel
theorem dX5_release_31 : decode cX5_release 31 = .ok (.getfield 72, 3) := by decide +kernel
theorem dX5_release_34 : decode cX5_release 34 = .ok (.iastore, 1) := by decide +kernel
theorem dX5_release_35 : decode cX5_release 35 = .ok (.aload_n 0, 1) := by decide +kernel
theorem dX5_release_36 : decode cX5_release 36 = .ok (.dup, 1) := by decide +kernel
theorem dX5_release_37 : decode cX5_release 37 = .ok (.getfield 87, 3) := by decide +kernel
theorem dX5_release_40 : decode cX5_release 40 = .ok (.iconst 1, 1) := by decide +kernel
theorem dX5_release_41 : decode cX5_release 41 = .ok (.iadd, 1) := by decide +kernel
theorem dX5_release_42 : decode cX5_release 42 = .ok (.putfield 87, 3) := by decide +kernel
theorem dX5_release_45 : decode cX5_release 45 = .ok (.aload_n 0, 1) := by decide +kernel
theorem dX5_release_46 : decode cX5_release 46 = .ok (.iload_n 1, 1) := by decide +kernel
theorem dX5_release_47 : decode cX5_release 47 = .ok (.iconst 0, 1) := by decide +kernel
theorem dX5_release_48 : decode cX5_release 48 = .ok (.invokevirtual 125, 3) := by decide +kernel
theorem dX5_release_51 : decode cX5_release 51 = .ok (.aload_n 0, 1) := by decide +kernel
theorem dX5_release_52 : decode cX5_release 52 = .ok (.iconst 1, 1) := by decide +kernel
theorem dX5_release_53 : decode cX5_release 53 = .ok (.invokevirtual 97, 3) := by decide +kernel
theorem dX5_release_56 : decode cX5_release 56 = .ok (.aload_n 0, 1) := by decide +kernel
theorem dX5_release_57 : decode cX5_release 57 = .ok (.iload_n 1, 1) := by decide +kernel
theorem dX5_release_58 : decode cX5_release 58 = .ok (.invokevirtual 68, 3) := by decide +kernel
theorem dX5_release_61 : decode cX5_release 61 = .ok (.iload_n 2, 1) := by decide +kernel
theorem dX5_release_62 : decode cX5_release 62 = .ok (.ifCond .eq 8, 3) := by decide +kernel
theorem dX5_release_65 : decode cX5_release 65 = .ok (.aload_n 0, 1) := by decide +kernel
theorem dX5_release_66 : decode cX5_release 66 = .ok (.iload_n 1, 1) := by decide +kernel
theorem dX5_release_67 : decode cX5_release 67 = .ok (.invokevirtual 129, 3) := by decide +kernel
theorem dX5_release_70 : decode cX5_release 70 = .ok (.return_, 1) := by decide +kernel
def J_X5_release_24 (b0 fu : Nat)   (σ : tM) : Option ((Unit) × tM) := some ((), σ)
def J_X5_release_70 (b0 fu : Nat)   (σ : tM) : Option ((Unit) × tM) := some ((), σ)
def m_X5_release (b0 fu : Nat) (a0 : Nat) (p0 : Int32) (p1 : Int32) (σ : tM) : Option ((Unit) × tM) := grw σ (if (p0) < (34) then J_X5_release_24 b0 fu    (σ) else ckO b0 (σ) (a0) 5 (if (tI (σ) (a0) 7) ≤ (p0) then J_X5_release_24 b0 fu    (σ) else osm (tA (σ) (a0) 1) (fun a5 => ckR b0 (σ) (a5) 0 (fun n9 => ckI (p0) (n9) (if (tI (σ) (a5) ((p0).toNatClampNeg)) = ((-1)) then osm (tA (σ) (a0) 1) (fun a12 => ckR b0 (σ) (a12) 0 (fun n16 => ckI (p0) (n16) (cll (m_X5_mark b0 fu (a0) (p0) (0) (sI (sI (σ) (a12) ((p0).toNatClampNeg) (tI (σ) (a0) 16)) (a0) 10 ((tI (sI (σ) (a12) ((p0).toNatClampNeg) (tI (σ) (a0) 16)) (a0) 10) + (1)))) (fun v18 ρ19 => ckO b0 (ρ19) (a0) 5 (cll (m_X5_touch b0 fu (a0) (1) (ρ19)) (fun v23 ρ24 => ckO b0 (ρ24) (a0) 5 (cll (m_X5_clean b0 fu (a0) (p0) (ρ24)) (fun v28 ρ29 => if (p1) = (0) then J_X5_release_70 b0 fu    (ρ29) else ckO b0 (ρ29) (a0) 5 (cll (m_X5_revoke b0 fu (a0) (p0) (ρ29)) (fun v34 ρ35 => J_X5_release_70 b0 fu    (ρ35))))))))))) else J_X5_release_24 b0 fu    (σ))))))
set_option maxRecDepth 100000 in
set_option maxHeartbeats 1000000 in
theorem j_X5_release_24 {p : Program} {l : Launch} {e : Env} {s : State} {m : MethodId} {args : Array Value} {below : List Frame} {meth : Method} {c : Code} {D : va_G} {aC : Nat → ClassId} {b0 fu : Nat} {σ0 τ : tM} {v : Unit}  (C : tCx p s m args meth c yX5_release.cls cX5_release 3 none D aC b0 σ0) (htab : ∀ x ∈ c.exceptionTable.toList, False) (hin : meth.name = yX5_release.name)   {σ : tM} (hm : J_X5_release_24 b0 fu   σ = some (v, τ)) : tX p l e s m args below meth c 3 1 26 D aC b0 σ0 (.inl none) τ 24 [] [] σ := by
  unfold J_X5_release_24 at hm
  obtain ⟨rfl, rfl⟩ := ret_e hm
  exact zx_vret C rfl rfl rfl dX5_release_24
set_option maxRecDepth 100000 in
set_option maxHeartbeats 1000000 in
theorem j_X5_release_70 {p : Program} {l : Launch} {e : Env} {s : State} {m : MethodId} {args : Array Value} {below : List Frame} {meth : Method} {c : Code} {D : va_G} {aC : Nat → ClassId} {b0 fu : Nat} {σ0 τ : tM} {v : Unit}  (C : tCx p s m args meth c yX5_release.cls cX5_release 3 none D aC b0 σ0) (htab : ∀ x ∈ c.exceptionTable.toList, False) (hin : meth.name = yX5_release.name)   {σ : tM} (hm : J_X5_release_70 b0 fu   σ = some (v, τ)) : tX p l e s m args below meth c 3 1 26 D aC b0 σ0 (.inl none) τ 70 [] [] σ := by
  unfold J_X5_release_70 at hm
  obtain ⟨rfl, rfl⟩ := ret_e hm
  exact zx_vret C rfl rfl rfl dX5_release_70
set_option maxRecDepth 100000 in
set_option maxHeartbeats 1000000 in
theorem c_X5_release {l : Launch} {D : va_G} {aC : Nat → ClassId} {b0 fu : Nat} {a0 : Nat} {p0 : Int32} {p1 : Int32} {σ τ : tM} {v : Unit} (hm : m_X5_release b0 fu a0 p0 p1 σ = some (v, τ)) : tMt l D aC b0 yX5_release (Cond.code yX5_release cX5_release 3 none) 1 26 [.ref (a0), .int (p0), .int (p1)] σ (.inl none) τ := by
  unfold m_X5_release at hm
  obtain ⟨hg, hm⟩ := grw_e hm
  refine tMt_of (n := 0) rfl (Nat.le_of_ble_eq_true rfl) hg ?_
  intro p e s m below meth c C htab hin
  refine zx_lv [0, 1, 2] [(0, .ref (a0)), (1, .int (p0)), (2, .int (p1))] rfl ?_
  refine zx_iload_n C dX5_release_0 1 rfl ?_
  refine zx_bipush (v := 34) C dX5_release_1 (by decide) ?_
  refine zx_icmp_lt C 24 dX5_release_3 (by decide) (fun c1 => ?_) (fun c1 => ?_)
  · replace hm := ip_e hm c1
    exact zx_lv [] [] rfl (j_X5_release_24 C htab hin    hm)
  · replace hm := in_e hm c1
    refine zx_iload_n C dX5_release_6 1 rfl ?_
    refine zx_aload_n C dX5_release_7 0 rfl ?_
    obtain ⟨k2, i3, hm⟩ := ckO_e hm
    refine zx_get (j := 7) C tC_5 k2 i3 ⟨by decide, Or.inl W_1_104⟩ dX5_release_8 (.int (tI (σ) (a0) 7)) rfl ?_
    refine zx_icmp_ge C 24 dX5_release_11 (by decide) (fun c4 => ?_) (fun c4 => ?_)
    · replace hm := ip_e hm c4
      exact zx_lv [] [] rfl (j_X5_release_24 C htab hin    hm)
    · replace hm := in_e hm c4
      refine zx_aload_n C dX5_release_14 0 rfl ?_
      obtain ⟨a5, h6, hm⟩ := osm_e hm
      refine zx_get (j := 1) C tC_5 k2 i3 ⟨by decide, Or.inl W_1_97⟩ dX5_release_15 (.ref a5) (rf_s h6) ?_
      refine zx_iload_n C dX5_release_18 1 rfl ?_
      obtain ⟨n9, k7, i8, hm⟩ := ckR_e hm
      obtain ⟨h10, hm⟩ := ckI_e hm
      refine zx_iald C k7 i8 h10 dX5_release_19 ?_
      refine zx_iconst (v := (-1)) C dX5_release_20 (by decide) ?_
      refine zx_icmp_eq C 25 dX5_release_21 (by decide) (fun c11 => ?_) (fun c11 => ?_)
      · replace hm := ip_e hm c11
        refine zx_aload_n C dX5_release_25 0 rfl ?_
        obtain ⟨a12, h13, hm⟩ := osm_e hm
        refine zx_get (j := 1) C tC_5 k2 i3 ⟨by decide, Or.inl W_1_97⟩ dX5_release_26 (.ref a12) (rf_s h13) ?_
        refine zx_iload_n C dX5_release_29 1 rfl ?_
        refine zx_aload_n C dX5_release_30 0 rfl ?_
        refine zx_get (j := 16) C tC_5 k2 i3 ⟨by decide, Or.inl W_1_119⟩ dX5_release_31 (.int (tI (σ) (a0) 16)) rfl ?_
        obtain ⟨n16, k14, i15, hm⟩ := ckR_e hm
        obtain ⟨h17, hm⟩ := ckI_e hm
        refine zx_iast C k14 i15 h17 dX5_release_34 ?_
        refine zx_aload_n C dX5_release_35 0 rfl ?_
        refine zx_dup C dX5_release_36 rfl ?_
        refine zx_get (j := 10) C tC_5 k2 i3 ⟨by decide, Or.inl W_1_110⟩ dX5_release_37 (.int (tI (sI (σ) (a12) ((p0).toNatClampNeg) (tI (σ) (a0) 16)) (a0) 10)) rfl ?_
        refine zx_iconst (v := 1) C dX5_release_40 (by decide) ?_
        refine zx_iadd C dX5_release_41 ?_
        refine zx_put (j := 10) (ρ := sI (sI (σ) (a12) ((p0).toNatClampNeg) (tI (σ) (a0) 16)) (a0) 10 ((tI (sI (σ) (a12) ((p0).toNatClampNeg) (tI (σ) (a0) 16)) (a0) 10) + (1))) C tC_5 k2 i3 ⟨by decide, Or.inl W_1_110⟩ rfl rfl rfl (sI_ok (fun _ => rfl)) dX5_release_42 ?_
        refine zx_aload_n C dX5_release_45 0 rfl ?_
        refine zx_iload_n C dX5_release_46 1 rfl ?_
        refine zx_iconst (v := 0) C dX5_release_47 (by decide) ?_
        obtain ⟨v18, ρ19, h20, hm⟩ := cll_e hm
        refine zx_callV (σ := sI (sI (σ) (a12) ((p0).toNatClampNeg) (tI (σ) (a0) 16)) (a0) 10 ((tI (sI (σ) (a12) ((p0).toNatClampNeg) (tI (σ) (a0) 16)) (a0) 10) + (1))) C [.int (p0), .int (0)] tC_5 k2 i3 Y_X5_mark W_4_211 W_4_213 Wp_30 (c_X5_mark h20) (by decide) (by decide) rfl (Nat.le_of_ble_eq_true rfl) dX5_release_48 rfl ?_
        refine zx_aload_n C dX5_release_51 0 rfl ?_
        refine zx_iconst (v := 1) C dX5_release_52 (by decide) ?_
        obtain ⟨k21, i22, hm⟩ := ckO_e hm
        obtain ⟨v23, ρ24, h25, hm⟩ := cll_e hm
        refine zx_callV (σ := ρ19) C [.int (1)] tC_5 k21 i22 Y_X5_touch W_4_215 W_2_157 W_2_158 (c_X5_touch h25) (by decide) (by decide) rfl (Nat.le_of_ble_eq_true rfl) dX5_release_53 rfl ?_
        refine zx_aload_n C dX5_release_56 0 rfl ?_
        refine zx_iload_n C dX5_release_57 1 rfl ?_
        obtain ⟨k26, i27, hm⟩ := ckO_e hm
        obtain ⟨v28, ρ29, h30, hm⟩ := cll_e hm
        refine zx_callV (σ := ρ24) C [.int (p0)] tC_5 k26 i27 Y_X5_clean W_2_119 W_2_120 W_2_121 (c_X5_clean h30) (by decide) (by decide) rfl (Nat.le_of_ble_eq_true rfl) dX5_release_58 rfl ?_
        refine zx_iload_n C dX5_release_61 2 rfl ?_
        refine zx_if_eq C 70 dX5_release_62 (by decide) (fun c31 => ?_) (fun c31 => ?_)
        · replace hm := ip_e hm c31
          exact zx_lv [] [] rfl (j_X5_release_70 C htab hin    hm)
        · replace hm := in_e hm c31
          refine zx_aload_n C dX5_release_65 0 rfl ?_
          refine zx_iload_n C dX5_release_66 1 rfl ?_
          obtain ⟨k32, i33, hm⟩ := ckO_e hm
          obtain ⟨v34, ρ35, h36, hm⟩ := cll_e hm
          refine zx_callV (σ := ρ29) C [.int (p0)] tC_5 k32 i33 Y_X5_revoke W_5_50 W_5_52 Wp_34 (c_X5_revoke h36) (by decide) (by decide) rfl (Nat.le_of_ble_eq_true rfl) dX5_release_67 rfl ?_
          exact zx_lv [] [] rfl (j_X5_release_70 C htab hin    hm)
      · replace hm := in_e hm c11
        exact zx_lv [] [] rfl (j_X5_release_24 C htab hin    hm)
abbrev cX8_setUp : ByteArray := prog_10_method_14_code
def yX8_setUp : MethodName := ⟨"SyncTree$Tree", "setUp", "(III)V"⟩
theorem Y_X8_setUp : tY yX8_setUp cX8_setUp 5 none 3 := ⟨W_2_147, W_1_4, ⟨by decide +kernel, by decide +kernel⟩, by decide +kernel⟩
theorem dX8_setUp_0 : decode cX8_setUp 0 = .ok (.iload_n 2, 1) := by decide +kernel
theorem dX8_setUp_1 : decode cX8_setUp 1 = .ok (.iconst 2, 1) := by decide +kernel
theorem dX8_setUp_2 : decode cX8_setUp 2 = .ok (.if_icmp .ne 7, 3) := by decide +kernel
theorem dX8_setUp_5 : decode cX8_setUp 5 = .ok (.iconst 1, 1) := by decide +kernel
theorem dX8_setUp_6 : decode cX8_setUp 6 = .ok (.goto 4, 3) := by decide +kernel
theorem dX8_setUp_9 : decode cX8_setUp 9 = .ok (.iconst 0, 1) := by decide +kernel
theorem dX8_setUp_10 : decode cX8_setUp 10 = .ok (.istore 4, 2) := by decide +kernel
theorem dX8_setUp_12 : decode cX8_setUp 12 = .ok (.aload_n 0, 1) := by decide +kernel
theorem dX8_setUp_13 : decode cX8_setUp 13 = .ok (.iload_n 1, 1) := by decide +kernel
theorem dX8_setUp_14 : decode cX8_setUp 14 = .ok (.iload_n 2, 1) := by decide +kernel
theorem dX8_setUp_15 : decode cX8_setUp 15 = .ok (.iload 4, 2) := by decide +kernel
theorem dX8_setUp_17 : decode cX8_setUp 17 = .ok (.ifCond .eq 7, 3) := by decide +kernel
theorem dX8_setUp_20 : decode cX8_setUp 20 = .ok (.iconst 0, 1) := by decide +kernel
theorem dX8_setUp_21 : decode cX8_setUp 21 = .ok (.goto 4, 3) := by decide +kernel
theorem dX8_setUp_24 : decode cX8_setUp 24 = .ok (.iconst 1, 1) := by decide +kernel
theorem dX8_setUp_25 : decode cX8_setUp 25 = .ok (.iload 4, 2) := by decide +kernel
theorem dX8_setUp_27 : decode cX8_setUp 27 = .ok (.ifCond .eq 7, 3) := by decide +kernel
theorem dX8_setUp_30 : decode cX8_setUp 30 = .ok (.iload_n 3, 1) := by decide +kernel
theorem dX8_setUp_31 : decode cX8_setUp 31 = .ok (.goto 4, 3) := by decide +kernel
theorem dX8_setUp_34 : decode cX8_setUp 34 = .ok (.iconst 0, 1) := by decide +kernel
theorem dX8_setUp_35 : decode cX8_setUp 35 = .ok (.iconst 0, 1) := by decide +kernel
theorem dX8_setUp_36 : decode cX8_setUp 36 = .ok (.invokevirtual 56, 3) := by decide +kernel
theorem dX8_setUp_39 : decode cX8_setUp 39 = .ok (.aload_n 0, 1) := by decide +kernel
theorem dX8_setUp_40 : decode cX8_setUp 40 = .ok (.iload_n 1, 1) := by decide +kernel
theorem dX8_setUp_41 : decode cX8_setUp 41 = .ok (.iconst 0, 1) := by decide +kernel
theorem dX8_setUp_42 : decode cX8_setUp 42 = .ok (.invokevirtual 63, 3) := by decide +kernel
theorem dX8_setUp_45 : decode cX8_setUp 45 = .ok (.return_, 1) := by decide +kernel
def J_X8_setUp_35 (b0 fu : Nat)  (x0 : Nat) (x1 : Int32) (s0 : Nat) (s1 : Int32) (s2 : Int32) (s3 : Int32) (s4 : Int32) (σ : tM) : Option ((Unit) × tM) := ckO b0 (σ) (s0) 8 (cll (m_X8_setHeader b0 fu (s0) (s1) (s2) (s3) (s4) (0) (σ)) (fun v6 ρ7 => ckO b0 (ρ7) (x0) 8 (cll (m_X8_noteChange b0 fu (x0) (x1) (0) (ρ7)) (fun v11 ρ12 => some ((), ρ12)))))
def J_X8_setUp_25 (b0 fu : Nat)  (x0 : Nat) (x1 : Int32) (x3 : Int32) (x4 : Int32) (s0 : Nat) (s1 : Int32) (s2 : Int32) (s3 : Int32) (σ : tM) : Option ((Unit) × tM) := if (x4) = (0) then J_X8_setUp_35 b0 fu   (x0) (x1) (s0) (s1) (s2) (s3) (0) (σ) else J_X8_setUp_35 b0 fu   (x0) (x1) (s0) (s1) (s2) (s3) (x3) (σ)
def J_X8_setUp_10 (b0 fu : Nat)  (x0 : Nat) (x1 : Int32) (x2 : Int32) (x3 : Int32) (s0 : Int32) (σ : tM) : Option ((Unit) × tM) := if (s0) = (0) then J_X8_setUp_25 b0 fu   (x0) (x1) (x3) (s0) (x0) (x1) (x2) (1) (σ) else J_X8_setUp_25 b0 fu   (x0) (x1) (x3) (s0) (x0) (x1) (x2) (0) (σ)
def m_X8_setUp (b0 fu : Nat) (a0 : Nat) (p0 : Int32) (p1 : Int32) (p2 : Int32) (σ : tM) : Option ((Unit) × tM) := grw σ (if (p1) = (2) then J_X8_setUp_10 b0 fu   (a0) (p0) (p1) (p2) (1) (σ) else J_X8_setUp_10 b0 fu   (a0) (p0) (p1) (p2) (0) (σ))
set_option maxRecDepth 100000 in
set_option maxHeartbeats 1000000 in
theorem j_X8_setUp_35 {p : Program} {l : Launch} {e : Env} {s : State} {m : MethodId} {args : Array Value} {below : List Frame} {meth : Method} {c : Code} {D : va_G} {aC : Nat → ClassId} {b0 fu : Nat} {σ0 τ : tM} {v : Unit}  (C : tCx p s m args meth c yX8_setUp.cls cX8_setUp 5 none D aC b0 σ0) (htab : ∀ x ∈ c.exceptionTable.toList, False) (hin : meth.name = yX8_setUp.name)  {x0 : Nat} {x1 : Int32} {s0 : Nat} {s1 : Int32} {s2 : Int32} {s3 : Int32} {s4 : Int32} {σ : tM} (hm : J_X8_setUp_35 b0 fu  x0 x1 s0 s1 s2 s3 s4 σ = some (v, τ)) : tX p l e s m args below meth c 5 3 70 D aC b0 σ0 (.inl none) τ 35 [(0, .ref (x0)), (1, .int (x1))] [.int (s4), .int (s3), .int (s2), .int (s1), .ref (s0)] σ := by
  unfold J_X8_setUp_35 at hm
  refine zx_iconst (v := 0) C dX8_setUp_35 (by decide) ?_
  obtain ⟨k4, i5, hm⟩ := ckO_e hm
  obtain ⟨v6, ρ7, h8, hm⟩ := cll_e hm
  refine zx_callV (σ := σ) C [.int (s1), .int (s2), .int (s3), .int (s4), .int (0)] tC_8 k4 i5 Y_X8_setHeader W_2_148 W_2_150 Wp_5 (c_X8_setHeader h8) (by decide) (by decide) rfl (Nat.le_of_ble_eq_true rfl) dX8_setUp_36 rfl ?_
  refine zx_aload_n C dX8_setUp_39 0 rfl ?_
  refine zx_iload_n C dX8_setUp_40 1 rfl ?_
  refine zx_iconst (v := 0) C dX8_setUp_41 (by decide) ?_
  obtain ⟨k9, i10, hm⟩ := ckO_e hm
  obtain ⟨v11, ρ12, h13, hm⟩ := cll_e hm
  refine zx_callV (σ := ρ7) C [.int (x1), .int (0)] tC_8 k9 i10 Y_X8_noteChange W_2_160 W_2_162 Wp_7 (c_X8_noteChange h13) (by decide) (by decide) rfl (Nat.le_of_ble_eq_true rfl) dX8_setUp_42 rfl ?_
  obtain ⟨rfl, rfl⟩ := ret_e hm
  exact zx_vret C rfl rfl rfl dX8_setUp_45
set_option maxRecDepth 100000 in
set_option maxHeartbeats 1000000 in
theorem j_X8_setUp_25 {p : Program} {l : Launch} {e : Env} {s : State} {m : MethodId} {args : Array Value} {below : List Frame} {meth : Method} {c : Code} {D : va_G} {aC : Nat → ClassId} {b0 fu : Nat} {σ0 τ : tM} {v : Unit}  (C : tCx p s m args meth c yX8_setUp.cls cX8_setUp 5 none D aC b0 σ0) (htab : ∀ x ∈ c.exceptionTable.toList, False) (hin : meth.name = yX8_setUp.name)  {x0 : Nat} {x1 : Int32} {x3 : Int32} {x4 : Int32} {s0 : Nat} {s1 : Int32} {s2 : Int32} {s3 : Int32} {σ : tM} (hm : J_X8_setUp_25 b0 fu  x0 x1 x3 x4 s0 s1 s2 s3 σ = some (v, τ)) : tX p l e s m args below meth c 5 3 70 D aC b0 σ0 (.inl none) τ 25 [(0, .ref (x0)), (1, .int (x1)), (3, .int (x3)), (4, .int (x4))] [.int (s3), .int (s2), .int (s1), .ref (s0)] σ := by
  unfold J_X8_setUp_25 at hm
  refine zx_iload C dX8_setUp_25 3 rfl ?_
  refine zx_if_eq C 34 dX8_setUp_27 (by decide) (fun c3 => ?_) (fun c3 => ?_)
  · replace hm := ip_e hm c3
    refine zx_iconst (v := 0) C dX8_setUp_34 (by decide) ?_
    exact zx_lv [0, 1] [(0, .ref (x0)), (1, .int (x1))] rfl (j_X8_setUp_35 C htab hin    hm)
  · replace hm := in_e hm c3
    refine zx_iload_n C dX8_setUp_30 2 rfl ?_
    refine zx_goto C 35 dX8_setUp_31 (by decide) ?_
    exact zx_lv [0, 1] [(0, .ref (x0)), (1, .int (x1))] rfl (j_X8_setUp_35 C htab hin    hm)
set_option maxRecDepth 100000 in
set_option maxHeartbeats 1000000 in
theorem j_X8_setUp_10 {p : Program} {l : Launch} {e : Env} {s : State} {m : MethodId} {args : Array Value} {below : List Frame} {meth : Method} {c : Code} {D : va_G} {aC : Nat → ClassId} {b0 fu : Nat} {σ0 τ : tM} {v : Unit}  (C : tCx p s m args meth c yX8_setUp.cls cX8_setUp 5 none D aC b0 σ0) (htab : ∀ x ∈ c.exceptionTable.toList, False) (hin : meth.name = yX8_setUp.name)  {x0 : Nat} {x1 : Int32} {x2 : Int32} {x3 : Int32} {s0 : Int32} {σ : tM} (hm : J_X8_setUp_10 b0 fu  x0 x1 x2 x3 s0 σ = some (v, τ)) : tX p l e s m args below meth c 5 3 70 D aC b0 σ0 (.inl none) τ 10 [(0, .ref (x0)), (1, .int (x1)), (2, .int (x2)), (3, .int (x3))] [.int (s0)] σ := by
  unfold J_X8_setUp_10 at hm
  refine zx_istore C [(4, .int (s0)), (0, .ref (x0)), (1, .int (x1)), (2, .int (x2)), (3, .int (x3))] dX8_setUp_10 (by decide) rfl ?_
  refine zx_aload_n C dX8_setUp_12 1 rfl ?_
  refine zx_iload_n C dX8_setUp_13 2 rfl ?_
  refine zx_iload_n C dX8_setUp_14 3 rfl ?_
  refine zx_iload C dX8_setUp_15 0 rfl ?_
  refine zx_if_eq C 24 dX8_setUp_17 (by decide) (fun c2 => ?_) (fun c2 => ?_)
  · replace hm := ip_e hm c2
    refine zx_iconst (v := 1) C dX8_setUp_24 (by decide) ?_
    exact zx_lv [1, 2, 4, 0] [(0, .ref (x0)), (1, .int (x1)), (3, .int (x3)), (4, .int (s0))] rfl (j_X8_setUp_25 C htab hin    hm)
  · replace hm := in_e hm c2
    refine zx_iconst (v := 0) C dX8_setUp_20 (by decide) ?_
    refine zx_goto C 25 dX8_setUp_21 (by decide) ?_
    exact zx_lv [1, 2, 4, 0] [(0, .ref (x0)), (1, .int (x1)), (3, .int (x3)), (4, .int (s0))] rfl (j_X8_setUp_25 C htab hin    hm)
set_option maxRecDepth 100000 in
set_option maxHeartbeats 1000000 in
theorem c_X8_setUp {l : Launch} {D : va_G} {aC : Nat → ClassId} {b0 fu : Nat} {a0 : Nat} {p0 : Int32} {p1 : Int32} {p2 : Int32} {σ τ : tM} {v : Unit} (hm : m_X8_setUp b0 fu a0 p0 p1 p2 σ = some (v, τ)) : tMt l D aC b0 yX8_setUp (Cond.code yX8_setUp cX8_setUp 5 none) 3 70 [.ref (a0), .int (p0), .int (p1), .int (p2)] σ (.inl none) τ := by
  unfold m_X8_setUp at hm
  obtain ⟨hg, hm⟩ := grw_e hm
  refine tMt_of (n := 0) rfl (Nat.le_of_ble_eq_true rfl) hg ?_
  intro p e s m below meth c C htab hin
  refine zx_lv [0, 1, 2, 3] [(0, .ref (a0)), (1, .int (p0)), (2, .int (p1)), (3, .int (p2))] rfl ?_
  refine zx_iload_n C dX8_setUp_0 2 rfl ?_
  refine zx_iconst (v := 2) C dX8_setUp_1 (by decide) ?_
  refine zx_icmp_ne C 9 dX8_setUp_2 (by decide) (fun c1 => ?_) (fun c1 => ?_)
  · replace hm := in_e hm c1
    refine zx_iconst (v := 0) C dX8_setUp_9 (by decide) ?_
    exact zx_lv [0, 1, 2, 3] [(0, .ref (a0)), (1, .int (p0)), (2, .int (p1)), (3, .int (p2))] rfl (j_X8_setUp_10 C htab hin    hm)
  · replace hm := ip_e hm c1
    refine zx_iconst (v := 1) C dX8_setUp_5 (by decide) ?_
    refine zx_goto C 10 dX8_setUp_6 (by decide) ?_
    exact zx_lv [0, 1, 2, 3] [(0, .ref (a0)), (1, .int (p0)), (2, .int (p1)), (3, .int (p2))] rfl (j_X8_setUp_10 C htab hin    hm)
abbrev cX8_setPointer : ByteArray := prog_10_method_27_code
def yX8_setPointer : MethodName := ⟨"SyncTree$Tree", "setPointer", "(IIJ)V"⟩
theorem Y_X8_setPointer : tY yX8_setPointer cX8_setPointer 5 none 3 := ⟨W_4_223, W_1_4, ⟨by decide +kernel, by decide +kernel⟩, by decide +kernel⟩
theorem dX8_setPointer_0 : decode cX8_setPointer 0 = .ok (.iload_n 2, 1) := by decide +kernel
theorem dX8_setPointer_1 : decode cX8_setPointer 1 = .ok (.bipush 8, 2) := by decide +kernel
theorem dX8_setPointer_3 : decode cX8_setPointer 3 = .ok (.if_icmp .ge 15, 3) := by decide +kernel
theorem dX8_setPointer_6 : decode cX8_setPointer 6 = .ok (.aload_n 0, 1) := by decide +kernel
theorem dX8_setPointer_7 : decode cX8_setPointer 7 = .ok (.iload_n 1, 1) := by decide +kernel
theorem dX8_setPointer_8 : decode cX8_setPointer 8 = .ok (.iconst 1, 1) := by decide +kernel
theorem dX8_setPointer_9 : decode cX8_setPointer 9 = .ok (.iload_n 2, 1) := by decide +kernel
theorem dX8_setPointer_10 : decode cX8_setPointer 10 = .ok (.iadd, 1) := by decide +kernel
theorem dX8_setPointer_11 : decode cX8_setPointer 11 = .ok (.lload_n 3, 1) := by decide +kernel
theorem dX8_setPointer_12 : decode cX8_setPointer 12 = .ok (.invokevirtual 36, 3) := by decide +kernel
theorem dX8_setPointer_15 : decode cX8_setPointer 15 = .ok (.goto 27, 3) := by decide +kernel
theorem dX8_setPointer_18 : decode cX8_setPointer 18 = .ok (.aload_n 0, 1) := by decide +kernel
theorem dX8_setPointer_19 : decode cX8_setPointer 19 = .ok (.getfield 15, 3) := by decide +kernel
theorem dX8_setPointer_22 : decode cX8_setPointer 22 = .ok (.aload_n 0, 1) := by decide +kernel
theorem dX8_setPointer_23 : decode cX8_setPointer 23 = .ok (.iload_n 1, 1) := by decide +kernel
theorem dX8_setPointer_24 : decode cX8_setPointer 24 = .ok (.iload_n 2, 1) := by decide +kernel
theorem dX8_setPointer_25 : decode cX8_setPointer 25 = .ok (.invokevirtual 101, 3) := by decide +kernel
theorem dX8_setPointer_28 : decode cX8_setPointer 28 = .ok (.invokestatic 104, 3) := by decide +kernel
theorem dX8_setPointer_31 : decode cX8_setPointer 31 = .ok (.iload_n 2, 1) := by decide +kernel
theorem dX8_setPointer_32 : decode cX8_setPointer 32 = .ok (.bipush 8, 2) := by decide +kernel
theorem dX8_setPointer_34 : decode cX8_setPointer 34 = .ok (.isub, 1) := by decide +kernel
theorem dX8_setPointer_35 : decode cX8_setPointer 35 = .ok (.bipush 32, 2) := by decide +kernel
theorem dX8_setPointer_37 : decode cX8_setPointer 37 = .ok (.irem, 1) := by decide +kernel
theorem dX8_setPointer_38 : decode cX8_setPointer 38 = .ok (.lload_n 3, 1) := by decide +kernel
theorem dX8_setPointer_39 : decode cX8_setPointer 39 = .ok (.invokevirtual 108, 3) := by decide +kernel
theorem dX8_setPointer_42 : decode cX8_setPointer 42 = .ok (.return_, 1) := by decide +kernel
def J_X8_setPointer_42 (b0 fu : Nat)   (σ : tM) : Option ((Unit) × tM) := some ((), σ)
def m_X8_setPointer (b0 fu : Nat) (a0 : Nat) (p0 : Int32) (p1 : Int32) (p2 : Int64) (σ : tM) : Option ((Unit) × tM) := grw σ (if (8) ≤ (p1) then ckO b0 (σ) (a0) 8 (osm (tA (σ) (a0) 0) (fun a4 => cll (m_X8_table b0 fu (a0) (p0) (p1) (σ)) (fun v6 ρ7 => cll (m_X8_cellOf b0 fu (v6) (ρ7)) (fun v9 ρ10 => ckO b0 (ρ10) (a4) 5 (cll (m_X5_setWord b0 fu (a4) (v9) (((p1) - (8)) - ((p1) - (8)) / (32) * (32)) (p2) (ρ10)) (fun v14 ρ15 => J_X8_setPointer_42 b0 fu    (ρ15))))))) else ckO b0 (σ) (a0) 8 (cll (m_X8_setNodeWord b0 fu (a0) (p0) ((1) + (p1)) (p2) (σ)) (fun v20 ρ21 => J_X8_setPointer_42 b0 fu    (ρ21))))
set_option maxRecDepth 100000 in
set_option maxHeartbeats 1000000 in
theorem j_X8_setPointer_42 {p : Program} {l : Launch} {e : Env} {s : State} {m : MethodId} {args : Array Value} {below : List Frame} {meth : Method} {c : Code} {D : va_G} {aC : Nat → ClassId} {b0 fu : Nat} {σ0 τ : tM} {v : Unit}  (C : tCx p s m args meth c yX8_setPointer.cls cX8_setPointer 5 none D aC b0 σ0) (htab : ∀ x ∈ c.exceptionTable.toList, False) (hin : meth.name = yX8_setPointer.name)   {σ : tM} (hm : J_X8_setPointer_42 b0 fu   σ = some (v, τ)) : tX p l e s m args below meth c 5 2 45 D aC b0 σ0 (.inl none) τ 42 [] [] σ := by
  unfold J_X8_setPointer_42 at hm
  obtain ⟨rfl, rfl⟩ := ret_e hm
  exact zx_vret C rfl rfl rfl dX8_setPointer_42
set_option maxRecDepth 100000 in
set_option maxHeartbeats 1000000 in
theorem c_X8_setPointer {l : Launch} {D : va_G} {aC : Nat → ClassId} {b0 fu : Nat} {a0 : Nat} {p0 : Int32} {p1 : Int32} {p2 : Int64} {σ τ : tM} {v : Unit} (hm : m_X8_setPointer b0 fu a0 p0 p1 p2 σ = some (v, τ)) : tMt l D aC b0 yX8_setPointer (Cond.code yX8_setPointer cX8_setPointer 5 none) 2 45 [.ref (a0), .int (p0), .int (p1), .long (p2)] σ (.inl none) τ := by
  unfold m_X8_setPointer at hm
  obtain ⟨hg, hm⟩ := grw_e hm
  refine tMt_of (n := 0) rfl (Nat.le_of_ble_eq_true rfl) hg ?_
  intro p e s m below meth c C htab hin
  refine zx_lv [0, 1, 2, 3] [(0, .ref (a0)), (1, .int (p0)), (2, .int (p1)), (3, .long (p2))] rfl ?_
  refine zx_iload_n C dX8_setPointer_0 2 rfl ?_
  refine zx_bipush (v := 8) C dX8_setPointer_1 (by decide) ?_
  refine zx_icmp_ge C 18 dX8_setPointer_3 (by decide) (fun c1 => ?_) (fun c1 => ?_)
  · replace hm := ip_e hm c1
    refine zx_aload_n C dX8_setPointer_18 0 rfl ?_
    obtain ⟨k2, i3, hm⟩ := ckO_e hm
    obtain ⟨a4, h5, hm⟩ := osm_e hm
    refine zx_get (j := 0) C tC_8 k2 i3 ⟨by decide, Or.inl W_1_163⟩ dX8_setPointer_19 (.ref a4) (rf_s h5) ?_
    refine zx_aload_n C dX8_setPointer_22 0 rfl ?_
    refine zx_iload_n C dX8_setPointer_23 1 rfl ?_
    refine zx_iload_n C dX8_setPointer_24 2 rfl ?_
    obtain ⟨v6, ρ7, h8, hm⟩ := cll_e hm
    refine zx_callV (σ := σ) C [.int (p0), .int (p1)] tC_8 k2 i3 Y_X8_table W_4_113 W_4_115 Wp_25 (c_X8_table h8) (by decide) (by decide) rfl (Nat.le_of_ble_eq_true rfl) dX8_setPointer_25 rfl ?_
    obtain ⟨v9, ρ10, h11, hm⟩ := cll_e hm
    refine zx_callS (σ := ρ7) C [.long (v6)] Y_X8_cellOf W_4_117 W_4_118 (c_X8_cellOf h11) (by decide) (by decide) rfl (Nat.le_of_ble_eq_true rfl) dX8_setPointer_28 rfl ?_
    refine zx_iload_n C dX8_setPointer_31 2 rfl ?_
    refine zx_bipush (v := 8) C dX8_setPointer_32 (by decide) ?_
    refine zx_isub C dX8_setPointer_34 ?_
    refine zx_bipush (v := 32) C dX8_setPointer_35 (by decide) ?_
    refine zx_irem C dX8_setPointer_37 (by decide) ?_
    refine zx_lload_n C dX8_setPointer_38 3 rfl ?_
    obtain ⟨k12, i13, hm⟩ := ckO_e hm
    obtain ⟨v14, ρ15, h16, hm⟩ := cll_e hm
    refine zx_callV (σ := ρ10) C [.int (v9), .int (((p1) - (8)) - ((p1) - (8)) / (32) * (32)), .long (p2)] tC_5 k12 i13 Y_X5_setWord W_4_216 W_4_217 W_4_218 (c_X5_setWord h16) (by decide) (by decide) rfl (Nat.le_of_ble_eq_true rfl) dX8_setPointer_39 rfl ?_
    exact zx_lv [] [] rfl (j_X8_setPointer_42 C htab hin    hm)
  · replace hm := in_e hm c1
    refine zx_aload_n C dX8_setPointer_6 0 rfl ?_
    refine zx_iload_n C dX8_setPointer_7 1 rfl ?_
    refine zx_iconst (v := 1) C dX8_setPointer_8 (by decide) ?_
    refine zx_iload_n C dX8_setPointer_9 2 rfl ?_
    refine zx_iadd C dX8_setPointer_10 ?_
    refine zx_lload_n C dX8_setPointer_11 3 rfl ?_
    obtain ⟨k18, i19, hm⟩ := ckO_e hm
    obtain ⟨v20, ρ21, h22, hm⟩ := cll_e hm
    refine zx_callV (σ := σ) C [.int (p0), .int ((1) + (p1)), .long (p2)] tC_8 k18 i19 Y_X8_setNodeWord W_2_152 W_2_154 Wp_6 (c_X8_setNodeWord h22) (by decide) (by decide) rfl (Nat.le_of_ble_eq_true rfl) dX8_setPointer_12 rfl ?_
    refine zx_goto C 42 dX8_setPointer_15 (by decide) ?_
    exact zx_lv [] [] rfl (j_X8_setPointer_42 C htab hin    hm)
abbrev cX8_dropIfEmpty : ByteArray := prog_10_method_31_code
def yX8_dropIfEmpty : MethodName := ⟨"SyncTree$Tree", "dropIfEmpty", "(II)V"⟩
theorem Y_X8_dropIfEmpty : tY yX8_dropIfEmpty cX8_dropIfEmpty 4 none 2 := ⟨W_5_57, W_1_4, ⟨by decide +kernel, by decide +kernel⟩, by decide +kernel⟩
theorem dX8_dropIfEmpty_0 : decode cX8_dropIfEmpty 0 = .ok (.aload_n 0, 1) := by decide +kernel
theorem dX8_dropIfEmpty_1 : decode cX8_dropIfEmpty 1 = .ok (.iload_n 1, 1) := by decide +kernel
theorem dX8_dropIfEmpty_2 : decode cX8_dropIfEmpty 2 = .ok (.iload_n 2, 1) := by decide +kernel
theorem dX8_dropIfEmpty_3 : decode cX8_dropIfEmpty 3 = .ok (.invokevirtual 30, 3) := by decide +kernel
theorem dX8_dropIfEmpty_6 : decode cX8_dropIfEmpty 6 = .ok (.invokestatic 104, 3) := by decide +kernel
theorem dX8_dropIfEmpty_9 : decode cX8_dropIfEmpty 9 = .ok (.istore_n 3, 1) := by decide +kernel
theorem dX8_dropIfEmpty_10 : decode cX8_dropIfEmpty 10 = .ok (.aload_n 0, 1) := by decide +kernel
theorem dX8_dropIfEmpty_11 : decode cX8_dropIfEmpty 11 = .ok (.getfield 15, 3) := by decide +kernel
theorem dX8_dropIfEmpty_14 : decode cX8_dropIfEmpty 14 = .ok (.iload_n 3, 1) := by decide +kernel
theorem dX8_dropIfEmpty_15 : decode cX8_dropIfEmpty 15 = .ok (.iconst 0, 1) := by decide +kernel
theorem dX8_dropIfEmpty_16 : decode cX8_dropIfEmpty 16 = .ok (.invokevirtual 126, 3) := by decide +kernel
theorem dX8_dropIfEmpty_19 : decode cX8_dropIfEmpty 19 = .ok (.ifCond .eq 19, 3) := by decide +kernel
theorem dX8_dropIfEmpty_22 : decode cX8_dropIfEmpty 22 = .ok (.aload_n 0, 1) := by decide +kernel
theorem dX8_dropIfEmpty_23 : decode cX8_dropIfEmpty 23 = .ok (.iload_n 1, 1) := by decide +kernel
theorem dX8_dropIfEmpty_24 : decode cX8_dropIfEmpty 24 = .ok (.iload_n 2, 1) := by decide +kernel
theorem dX8_dropIfEmpty_25 : decode cX8_dropIfEmpty 25 = .ok (.lconst 0, 1) := by decide +kernel
theorem dX8_dropIfEmpty_26 : decode cX8_dropIfEmpty 26 = .ok (.invokevirtual 36, 3) := by decide +kernel
theorem dX8_dropIfEmpty_29 : decode cX8_dropIfEmpty 29 = .ok (.aload_n 0, 1) := by decide +kernel
theorem dX8_dropIfEmpty_30 : decode cX8_dropIfEmpty 30 = .ok (.getfield 15, 3) := by decide +kernel
theorem dX8_dropIfEmpty_33 : decode cX8_dropIfEmpty 33 = .ok (.iload_n 3, 1) := by decide +kernel
theorem dX8_dropIfEmpty_34 : decode cX8_dropIfEmpty 34 = .ok (.iconst 1, 1) := by decide +kernel
theorem dX8_dropIfEmpty_35 : decode cX8_dropIfEmpty 35 = .ok (.invokevirtual 122, 3) := by decide +kernel
theorem dX8_dropIfEmpty_38 : decode cX8_dropIfEmpty 38 = .ok (.return_, 1) := by decide +kernel
def J_X8_dropIfEmpty_38 (b0 fu : Nat)   (σ : tM) : Option ((Unit) × tM) := some ((), σ)
def m_X8_dropIfEmpty (b0 fu : Nat) (a0 : Nat) (p0 : Int32) (p1 : Int32) (σ : tM) : Option ((Unit) × tM) := grw σ (ckO b0 (σ) (a0) 8 (cll (m_X8_nodeWord b0 fu (a0) (p0) (p1) (σ)) (fun v3 ρ4 => cll (m_X8_cellOf b0 fu (v3) (ρ4)) (fun v6 ρ7 => ckO b0 (ρ7) (a0) 8 (osm (tA (ρ7) (a0) 0) (fun a11 => ckO b0 (ρ7) (a11) 5 (cll (m_X5_isZeroFrom b0 fu (a11) (v6) (0) (ρ7)) (fun v15 ρ16 => if (v15) = (0) then J_X8_dropIfEmpty_38 b0 fu    (ρ16) else ckO b0 (ρ16) (a0) 8 (cll (m_X8_setNodeWord b0 fu (a0) (p0) (p1) (0) (ρ16)) (fun v21 ρ22 => ckO b0 (ρ22) (a0) 8 (osm (tA (ρ22) (a0) 0) (fun a26 => ckO b0 (ρ22) (a26) 5 (cll (m_X5_release b0 fu (a26) (v6) (1) (ρ22)) (fun v30 ρ31 => J_X8_dropIfEmpty_38 b0 fu    (ρ31)))))))))))))))
set_option maxRecDepth 100000 in
set_option maxHeartbeats 1000000 in
theorem j_X8_dropIfEmpty_38 {p : Program} {l : Launch} {e : Env} {s : State} {m : MethodId} {args : Array Value} {below : List Frame} {meth : Method} {c : Code} {D : va_G} {aC : Nat → ClassId} {b0 fu : Nat} {σ0 τ : tM} {v : Unit}  (C : tCx p s m args meth c yX8_dropIfEmpty.cls cX8_dropIfEmpty 4 none D aC b0 σ0) (htab : ∀ x ∈ c.exceptionTable.toList, False) (hin : meth.name = yX8_dropIfEmpty.name)   {σ : tM} (hm : J_X8_dropIfEmpty_38 b0 fu   σ = some (v, τ)) : tX p l e s m args below meth c 4 2 48 D aC b0 σ0 (.inl none) τ 38 [] [] σ := by
  unfold J_X8_dropIfEmpty_38 at hm
  obtain ⟨rfl, rfl⟩ := ret_e hm
  exact zx_vret C rfl rfl rfl dX8_dropIfEmpty_38
set_option maxRecDepth 100000 in
set_option maxHeartbeats 1000000 in
theorem c_X8_dropIfEmpty {l : Launch} {D : va_G} {aC : Nat → ClassId} {b0 fu : Nat} {a0 : Nat} {p0 : Int32} {p1 : Int32} {σ τ : tM} {v : Unit} (hm : m_X8_dropIfEmpty b0 fu a0 p0 p1 σ = some (v, τ)) : tMt l D aC b0 yX8_dropIfEmpty (Cond.code yX8_dropIfEmpty cX8_dropIfEmpty 4 none) 2 48 [.ref (a0), .int (p0), .int (p1)] σ (.inl none) τ := by
  unfold m_X8_dropIfEmpty at hm
  obtain ⟨hg, hm⟩ := grw_e hm
  refine tMt_of (n := 0) rfl (Nat.le_of_ble_eq_true rfl) hg ?_
  intro p e s m below meth c C htab hin
  refine zx_lv [0, 1, 2] [(0, .ref (a0)), (1, .int (p0)), (2, .int (p1))] rfl ?_
  refine zx_aload_n C dX8_dropIfEmpty_0 0 rfl ?_
  refine zx_iload_n C dX8_dropIfEmpty_1 1 rfl ?_
  refine zx_iload_n C dX8_dropIfEmpty_2 2 rfl ?_
  obtain ⟨k1, i2, hm⟩ := ckO_e hm
  obtain ⟨v3, ρ4, h5, hm⟩ := cll_e hm
  refine zx_callV (σ := σ) C [.int (p0), .int (p1)] tC_8 k1 i2 Y_X8_nodeWord W_3_83 W_3_84 W_3_85 (c_X8_nodeWord h5) (by decide) (by decide) rfl (Nat.le_of_ble_eq_true rfl) dX8_dropIfEmpty_3 rfl ?_
  obtain ⟨v6, ρ7, h8, hm⟩ := cll_e hm
  refine zx_callS (σ := ρ4) C [.long (v3)] Y_X8_cellOf W_4_117 W_4_118 (c_X8_cellOf h8) (by decide) (by decide) rfl (Nat.le_of_ble_eq_true rfl) dX8_dropIfEmpty_6 rfl ?_
  refine zx_istore_n C [(3, .int (v6)), (0, .ref (a0)), (1, .int (p0)), (2, .int (p1))] dX8_dropIfEmpty_9 rfl (by decide) rfl ?_
  refine zx_aload_n C dX8_dropIfEmpty_10 1 rfl ?_
  obtain ⟨k9, i10, hm⟩ := ckO_e hm
  obtain ⟨a11, h12, hm⟩ := osm_e hm
  refine zx_get (j := 0) C tC_8 k9 i10 ⟨by decide, Or.inl W_1_163⟩ dX8_dropIfEmpty_11 (.ref a11) (rf_s h12) ?_
  refine zx_iload_n C dX8_dropIfEmpty_14 0 rfl ?_
  refine zx_iconst (v := 0) C dX8_dropIfEmpty_15 (by decide) ?_
  obtain ⟨k13, i14, hm⟩ := ckO_e hm
  obtain ⟨v15, ρ16, h17, hm⟩ := cll_e hm
  refine zx_callV (σ := ρ7) C [.int (v6), .int (0)] tC_5 k13 i14 Y_X5_isZeroFrom W_5_37 W_5_38 W_5_39 (c_X5_isZeroFrom h17) (by decide) (by decide) rfl (Nat.le_of_ble_eq_true rfl) dX8_dropIfEmpty_16 rfl ?_
  refine zx_if_eq C 38 dX8_dropIfEmpty_19 (by decide) (fun c18 => ?_) (fun c18 => ?_)
  · replace hm := ip_e hm c18
    exact zx_lv [] [] rfl (j_X8_dropIfEmpty_38 C htab hin    hm)
  · replace hm := in_e hm c18
    refine zx_aload_n C dX8_dropIfEmpty_22 1 rfl ?_
    refine zx_iload_n C dX8_dropIfEmpty_23 2 rfl ?_
    refine zx_iload_n C dX8_dropIfEmpty_24 3 rfl ?_
    refine zx_lconst (v := 0) C dX8_dropIfEmpty_25 (by decide) ?_
    obtain ⟨k19, i20, hm⟩ := ckO_e hm
    obtain ⟨v21, ρ22, h23, hm⟩ := cll_e hm
    refine zx_callV (σ := ρ16) C [.int (p0), .int (p1), .long (0)] tC_8 k19 i20 Y_X8_setNodeWord W_2_152 W_2_154 Wp_6 (c_X8_setNodeWord h23) (by decide) (by decide) rfl (Nat.le_of_ble_eq_true rfl) dX8_dropIfEmpty_26 rfl ?_
    refine zx_aload_n C dX8_dropIfEmpty_29 1 rfl ?_
    obtain ⟨k24, i25, hm⟩ := ckO_e hm
    obtain ⟨a26, h27, hm⟩ := osm_e hm
    refine zx_get (j := 0) C tC_8 k24 i25 ⟨by decide, Or.inl W_1_163⟩ dX8_dropIfEmpty_30 (.ref a26) (rf_s h27) ?_
    refine zx_iload_n C dX8_dropIfEmpty_33 0 rfl ?_
    refine zx_iconst (v := 1) C dX8_dropIfEmpty_34 (by decide) ?_
    obtain ⟨k28, i29, hm⟩ := ckO_e hm
    obtain ⟨v30, ρ31, h32, hm⟩ := cll_e hm
    refine zx_callV (σ := ρ22) C [.int (v6), .int (1)] tC_5 k28 i29 Y_X5_release W_5_46 W_5_47 W_5_48 (c_X5_release h32) (by decide) (by decide) rfl (Nat.le_of_ble_eq_true rfl) dX8_dropIfEmpty_35 rfl ?_
    exact zx_lv [] [] rfl (j_X8_dropIfEmpty_38 C htab hin    hm)
