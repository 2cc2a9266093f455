abbrev cX6_append : ByteArray := prog_8_method_3_code
def yX6_append : MethodName := ⟨"SyncTree$Tape", "append", "(I)V"⟩
theorem Y_X6_append : tY yX6_append cX6_append 3 none 1 := ⟨W_3_19, W_1_8, ⟨by decide +kernel, by decide +kernel⟩, by decide +kernel⟩
theorem dX6_append_0 : decode cX6_append 0 = .ok (.bipush 24, 2) := by decide +kernel
theorem dX6_append_2 : decode cX6_append 2 = .ok (.istore_n 2, 1) := by decide +kernel
theorem dX6_append_3 : decode cX6_append 3 = .ok (.iload_n 2, 1) := by decide +kernel
theorem dX6_append_4 : decode cX6_append 4 = .ok (.ifCond .lt 42, 3) := by decide +kernel
theorem dX6_append_7 : decode cX6_append 7 = .ok (.aload_n 0, 1) := by decide +kernel
theorem dX6_append_8 : decode cX6_append 8 = .ok (.getfield 15, 3) := by decide +kernel
theorem dX6_append_11 : decode cX6_append 11 = .ok (.sipush 4000, 3) := by decide +kernel
theorem dX6_append_14 : decode cX6_append 14 = .ok (.if_icmp .ge 32, 3) := by decide +kernel
theorem dX6_append_17 : decode cX6_append 17 = .ok (.aload_n 0, 1) := by decide +kernel
theorem dX6_append_18 : decode cX6_append 18 = .ok (.getfield 11, 3) := by decide +kernel
theorem dX6_append_21 : decode cX6_append 21 = .ok (.aload_n 0, 1) := by decide +kernel
theorem dX6_append_22 : decode cX6_append 22 = .ok (.getfield 15, 3) := by decide +kernel
theorem dX6_append_25 : decode cX6_append 25 = .ok (.iload_n 1, 1) := by decide +kernel
theorem dX6_append_26 : decode cX6_append 26 = .ok (.iload_n 2, 1) := by decide +kernel
theorem dX6_append_27 : decode cX6_append 27 = .ok (.iushr, 1) := by decide +kernel
theorem dX6_append_28 : decode cX6_append 28 = .ok (.i2b, 1) := by decide +kernel
theorem dX6_append_29 : decode cX6_append 29 = .ok (.bastore, 1) := by decide +kernel
theorem dX6_append_30 : decode cX6_append 30 = .ok (.aload_n 0, 1) := by decide +kernel
theorem dX6_append_31 : decode cX6_append 31 = .ok (.dup, 1) := by decide +kernel
theorem dX6_append_32 : decode cX6_append 32 = .ok (.getfield 15, 3) := by decide +kernel
theorem dX6_append_35 : decode cX6_append 35 = .ok (.iconst 1, 1) := by decide +kernel
theorem dX6_append_36 : decode cX6_append 36 = .ok (.iadd, 1) := by decide +kernel
theorem dX6_append_37 : decode cX6_append 37 = .ok (.putfield 15, 3) := by decide +kernel
theorem dX6_append_40 : decode cX6_append 40 = .ok (.iinc 2 (-8), 3) := by decide +kernel
theorem dX6_append_43 : decode cX6_append 43 = .ok (.goto (-40), 3) := by decide +kernel
theorem dX6_append_46 : decode cX6_append 46 = .ok (.return_, 1) := by decide +kernel
def J_X6_append_46 (b0 fu : Nat)   (σ : tM) : Option ((Unit) × tM) := some ((), σ)
def L_X6_append_3 (b0 fu : Nat)  : Nat → Nat → Int32 → Int32 → tM → Option ((Unit) × tM)
  | 0, _, _, _, _ => none
  | n + 1, x0, x1, x2, σ => ltb (L_X6_append_3 b0 fu  n) (fun rc3 => if (x2) < (0) then J_X6_append_46 b0 fu    (σ) else ckO b0 (σ) (x0) 6 (if (4000) ≤ (tI (σ) (x0) 1) then J_X6_append_46 b0 fu    (σ) else osm (tA (σ) (x0) 0) (fun a5 => ckR b0 (σ) (a5) 1 (fun n9 => ckI (tI (σ) (x0) 1) (n9) (ltb ((x2) + Int32.ofInt (-8)) (fun y11 => rc3 (x0) (x1) (y11) (sI (sI (σ) (a5) ((tI (σ) (x0) 1).toNatClampNeg) (vp_nar .byte ((((x1).toUInt32 >>> ((x2).toUInt32 &&& Int32.toUInt32 31)).toInt32).toInt8.toInt32))) (x0) 1 ((tI (sI (σ) (a5) ((tI (σ) (x0) 1).toNatClampNeg) (vp_nar .byte ((((x1).toUInt32 >>> ((x2).toUInt32 &&& Int32.toUInt32 31)).toInt32).toInt8.toInt32))) (x0) 1) + (1)))))))))
def m_X6_append (b0 fu : Nat) (a0 : Nat) (p0 : Int32) (σ : tM) : Option ((Unit) × tM) := grw σ (L_X6_append_3 b0 fu  (fu) (a0) (p0) (24) (σ))
set_option maxRecDepth 100000 in
set_option maxHeartbeats 1000000 in
theorem j_X6_append_46 {p : Program} {l : Launch} {e : Env} {s : State} {m : MethodId} {args : Array Value} {below : List Frame} {meth : Method} {c : Code} {D : va_G} {aC : Nat → ClassId} {b0 fu : Nat} {σ0 τ : tM} {v : Unit}  (C : tCx p s m args meth c yX6_append.cls cX6_append 3 none D aC b0 σ0) (htab : ∀ x ∈ c.exceptionTable.toList, False) (hin : meth.name = yX6_append.name)   {σ : tM} (hm : J_X6_append_46 b0 fu   σ = some (v, τ)) : tX p l e s m args below meth c 3 0 0 D aC b0 σ0 (.inl none) τ 46 [] [] σ := by
  unfold J_X6_append_46 at hm
  obtain ⟨rfl, rfl⟩ := ret_e hm
  exact zx_vret C rfl rfl rfl dX6_append_46
set_option maxRecDepth 100000 in
set_option maxHeartbeats 1000000 in
theorem l_X6_append_3 {p : Program} {l : Launch} {e : Env} {s : State} {m : MethodId} {args : Array Value} {below : List Frame} {meth : Method} {c : Code} {D : va_G} {aC : Nat → ClassId} {b0 fu : Nat} {σ0 τ : tM} {v : Unit}  (C : tCx p s m args meth c yX6_append.cls cX6_append 3 none D aC b0 σ0) (htab : ∀ x ∈ c.exceptionTable.toList, False) (hin : meth.name = yX6_append.name)  : ∀ (n : Nat) (x0 : Nat) (x1 : Int32) (x2 : Int32) (σ : tM), L_X6_append_3 b0 fu  n x0 x1 x2 σ = some (v, τ) → tX p l e s m args below meth c 3 0 0 D aC b0 σ0 (.inl none) τ 3 [(0, .ref (x0)), (1, .int (x1)), (2, .int (x2))] [] σ := by
  intro n
  induction n with
  | zero => intro x0 x1 x2 σ hm; unfold L_X6_append_3 at hm; cases hm
  | succ n ih =>
    intro x0 x1 x2 σ hm
    unfold L_X6_append_3 at hm
    obtain ⟨rc3, hrc⟩ : ∃ z, z = L_X6_append_3 b0 fu  n := ⟨_, rfl⟩
    replace hm := ltb_e hm hrc
    rw [← hrc] at ih
    have hrc3 := ih
    clear ih hrc
    refine zx_iload_n C dX6_append_3 2 rfl ?_
    refine zx_if_lt C 46 dX6_append_4 (by decide) (fun c1 => ?_) (fun c1 => ?_)
    · replace hm := ip_e hm c1
      exact zx_lv [] [] rfl (j_X6_append_46 C htab hin    hm)
    · replace hm := in_e hm c1
      refine zx_aload_n C dX6_append_7 0 rfl ?_
      obtain ⟨k2, i3, hm⟩ := ckO_e hm
      refine zx_get (j := 1) C tC_6 k2 i3 ⟨by decide, Or.inl W_2_43⟩ dX6_append_8 (.int (tI (σ) (x0) 1)) rfl ?_
      refine zx_sipush (v := 4000) C dX6_append_11 (by decide) ?_
      refine zx_icmp_ge C 46 dX6_append_14 (by decide) (fun c4 => ?_) (fun c4 => ?_)
      · replace hm := ip_e hm c4
        exact zx_lv [] [] rfl (j_X6_append_46 C htab hin    hm)
      · replace hm := in_e hm c4
        refine zx_aload_n C dX6_append_17 0 rfl ?_
        obtain ⟨a5, h6, hm⟩ := osm_e hm
        refine zx_get (j := 0) C tC_6 k2 i3 ⟨by decide, Or.inl W_2_42⟩ dX6_append_18 (.ref a5) (rf_s h6) ?_
        refine zx_aload_n C dX6_append_21 0 rfl ?_
        refine zx_get (j := 1) C tC_6 k2 i3 ⟨by decide, Or.inl W_2_43⟩ dX6_append_22 (.int (tI (σ) (x0) 1)) rfl ?_
        refine zx_iload_n C dX6_append_25 1 rfl ?_
        refine zx_iload_n C dX6_append_26 2 rfl ?_
        refine zx_iushr C dX6_append_27 ?_
        refine zx_i2b C dX6_append_28 ?_
        obtain ⟨n9, k7, i8, hm⟩ := ckR_e hm
        obtain ⟨h10, hm⟩ := ckI_e hm
        refine zx_bast C k7 i8 h10 dX6_append_29 ?_
        refine zx_aload_n C dX6_append_30 0 rfl ?_
        refine zx_dup C dX6_append_31 rfl ?_
        refine zx_get (j := 1) C tC_6 k2 i3 ⟨by decide, Or.inl W_2_43⟩ dX6_append_32 (.int (tI (sI (σ) (a5) ((tI (σ) (x0) 1).toNatClampNeg) (vp_nar .byte ((((x1).toUInt32 >>> ((x2).toUInt32 &&& Int32.toUInt32 31)).toInt32).toInt8.toInt32))) (x0) 1)) rfl ?_
        refine zx_iconst (v := 1) C dX6_append_35 (by decide) ?_
        refine zx_iadd C dX6_append_36 ?_
        refine zx_put (j := 1) (ρ := sI (sI (σ) (a5) ((tI (σ) (x0) 1).toNatClampNeg) (vp_nar .byte ((((x1).toUInt32 >>> ((x2).toUInt32 &&& Int32.toUInt32 31)).toInt32).toInt8.toInt32))) (x0) 1 ((tI (sI (σ) (a5) ((tI (σ) (x0) 1).toNatClampNeg) (vp_nar .byte ((((x1).toUInt32 >>> ((x2).toUInt32 &&& Int32.toUInt32 31)).toInt32).toInt8.toInt32))) (x0) 1) + (1))) C tC_6 k2 i3 ⟨by decide, Or.inl W_2_43⟩ rfl rfl rfl (sI_ok (fun _ => rfl)) dX6_append_37 ?_
        obtain ⟨y11, hy11⟩ : ∃ z : Int32, z = (x2) + Int32.ofInt (-8) := ⟨_, rfl⟩
        replace hm := ltb_e hm hy11
        refine zx_iinc C [(2, .int (y11)), (0, .ref (x0)), (1, .int (x1))] dX6_append_40 2 rfl hy11.symm (by decide) rfl ?_
        refine zx_goto C 3 dX6_append_43 (by decide) ?_
        exact zx_lv [1, 2, 0] [(0, .ref (x0)), (1, .int (x1)), (2, .int (y11))] rfl (hrc3 _ _ _ _ hm)
set_option maxRecDepth 100000 in
set_option maxHeartbeats 1000000 in
theorem c_X6_append {l : Launch} {D : va_G} {aC : Nat → ClassId} {b0 fu : Nat} {a0 : Nat} {p0 : Int32} {σ τ : tM} {v : Unit} (hm : m_X6_append b0 fu a0 p0 σ = some (v, τ)) : tMt l D aC b0 yX6_append (Cond.code yX6_append cX6_append 3 none) 0 0 [.ref (a0), .int (p0)] σ (.inl none) τ := by
  unfold m_X6_append at hm
  obtain ⟨hg, hm⟩ := grw_e hm
  refine tMt_of (n := 0) rfl (Nat.le_of_ble_eq_true rfl) hg ?_
  intro p e s m below meth c C htab hin
  refine zx_lv [0, 1] [(0, .ref (a0)), (1, .int (p0))] rfl ?_
  refine zx_bipush (v := 24) C dX6_append_0 (by decide) ?_
  refine zx_istore_n C [(2, .int (24)), (0, .ref (a0)), (1, .int (p0))] dX6_append_2 rfl (by decide) rfl ?_
  exact zx_lv [1, 2, 0] [(0, .ref (a0)), (1, .int (p0)), (2, .int (24))] rfl (l_X6_append_3 C htab hin  _ _ _ _ _ hm)
abbrev cX6_useUp : ByteArray := prog_8_method_4_code
def yX6_useUp : MethodName := ⟨"SyncTree$Tape", "useUp", "()V"⟩
theorem Y_X6_useUp : tY yX6_useUp cX6_useUp 1 none 0 := ⟨W_2_205, W_1_8, ⟨by decide +kernel, by decide +kernel⟩, by decide +kernel⟩
theorem dX6_useUp_0 : decode cX6_useUp 0 = .ok (.aload_n 0, 1) := by decide +kernel
theorem dX6_useUp_1 : decode cX6_useUp 1 = .ok (.iconst 0, 1) := by decide +kernel
theorem dX6_useUp_2 : decode cX6_useUp 2 = .ok (.putfield 15, 3) := by decide +kernel
theorem dX6_useUp_5 : decode cX6_useUp 5 = .ok (.return_, 1) := by decide +kernel
def m_X6_useUp (b0 fu : Nat) (a0 : Nat) (σ : tM) : Option ((Unit) × tM) := grw σ (ckO b0 (σ) (a0) 6 (some ((), sI (σ) (a0) 1 (0))))
set_option maxRecDepth 100000 in
set_option maxHeartbeats 1000000 in
theorem c_X6_useUp {l : Launch} {D : va_G} {aC : Nat → ClassId} {b0 fu : Nat} {a0 : Nat} {σ τ : tM} {v : Unit} (hm : m_X6_useUp b0 fu a0 σ = some (v, τ)) : tMt l D aC b0 yX6_useUp (Cond.code yX6_useUp cX6_useUp 1 none) 0 0 [.ref (a0)] σ (.inl none) τ := by
  unfold m_X6_useUp at hm
  obtain ⟨hg, hm⟩ := grw_e hm
  refine tMt_of (n := 0) rfl (Nat.le_of_ble_eq_true rfl) hg ?_
  intro p e s m below meth c C htab hin
  refine zx_lv [0] [(0, .ref (a0))] rfl ?_
  refine zx_aload_n C dX6_useUp_0 0 rfl ?_
  refine zx_iconst (v := 0) C dX6_useUp_1 (by decide) ?_
  obtain ⟨k1, i2, hm⟩ := ckO_e hm
  refine zx_put (j := 1) (ρ := sI (σ) (a0) 1 (0)) C tC_6 k1 i2 ⟨by decide, Or.inl W_2_43⟩ rfl rfl rfl (sI_ok (fun _ => rfl)) dX6_useUp_2 ?_
  obtain ⟨rfl, rfl⟩ := ret_e hm
  exact zx_vret C rfl rfl rfl dX6_useUp_5
abbrev cX6_octet : ByteArray := prog_8_method_5_code
def yX6_octet : MethodName := ⟨"SyncTree$Tape", "octet", "(I)B"⟩
theorem Y_X6_octet : tY yX6_octet cX6_octet 2 (some .byte) 1 := ⟨W_3_37, W_1_8, ⟨by decide +kernel, by decide +kernel⟩, by decide +kernel⟩
theorem dX6_octet_0 : decode cX6_octet 0 = .ok (.iload_n 1, 1) := by decide +kernel
theorem dX6_octet_1 : decode cX6_octet 1 = .ok (.ifCond .lt 10, 3) := by decide +kernel
theorem dX6_octet_4 : decode cX6_octet 4 = .ok (.iload_n 1, 1) := by decide +kernel
theorem dX6_octet_5 : decode cX6_octet 5 = .ok (.sipush 4000, 3) := by decide +kernel
theorem dX6_octet_8 : decode cX6_octet 8 = .ok (.if_icmp .lt 7, 3) := by decide +kernel
theorem dX6_octet_11 : decode cX6_octet 11 = .ok (.iconst 0, 1) := by decide +kernel
theorem dX6_octet_12 : decode cX6_octet 12 = .ok (.goto 9, 3) := by decide +kernel
theorem dX6_octet_15 : decode cX6_octet 15 = .ok (.aload_n 0, 1) := by decide +kernel
theorem dX6_octet_16 : decode cX6_octet 16 = .ok (.getfield 11, 3) := by decide +kernel
theorem dX6_octet_19 : decode cX6_octet 19 = .ok (.iload_n 1, 1) := by decide +kernel
theorem dX6_octet_20 : decode cX6_octet 20 = .ok (.baload, 1) := by decide +kernel
theorem dX6_octet_21 : decode cX6_octet 21 = .ok (.ireturn, 1) := by decide +kernel
def J_X6_octet_21 (b0 fu : Nat)  (s0 : Int32) (σ : tM) : Option ((Int32) × tM) := ckB (s0) (some (s0, σ))
def J_X6_octet_11 (b0 fu : Nat)   (σ : tM) : Option ((Int32) × tM) := J_X6_octet_21 b0 fu   (0) (σ)
def m_X6_octet (b0 fu : Nat) (a0 : Nat) (p0 : Int32) (σ : tM) : Option ((Int32) × tM) := grw σ (if (p0) < (0) then J_X6_octet_11 b0 fu    (σ) else if (p0) < (4000) then ckO b0 (σ) (a0) 6 (osm (tA (σ) (a0) 0) (fun a6 => ckR b0 (σ) (a6) 1 (fun n10 => ckI (p0) (n10) (J_X6_octet_21 b0 fu   (tI (σ) (a6) ((p0).toNatClampNeg)) (σ))))) else J_X6_octet_11 b0 fu    (σ))
set_option maxRecDepth 100000 in
set_option maxHeartbeats 1000000 in
theorem j_X6_octet_21 {p : Program} {l : Launch} {e : Env} {s : State} {m : MethodId} {args : Array Value} {below : List Frame} {meth : Method} {c : Code} {D : va_G} {aC : Nat → ClassId} {b0 fu : Nat} {σ0 τ : tM} {v : Int32}  (C : tCx p s m args meth c yX6_octet.cls cX6_octet 2 (some .byte) D aC b0 σ0) (htab : ∀ x ∈ c.exceptionTable.toList, False) (hin : meth.name = yX6_octet.name)  {s0 : Int32} {σ : tM} (hm : J_X6_octet_21 b0 fu  s0 σ = some (v, τ)) : tX p l e s m args below meth c 2 0 0 D aC b0 σ0 (.inl (some (.int v))) τ 21 [] [.int (s0)] σ := by
  unfold J_X6_octet_21 at hm
  obtain ⟨h2, hm⟩ := ckB_e hm
  obtain ⟨rfl, rfl⟩ := ret_e hm
  exact zx_zret C rfl h2 rfl rfl dX6_octet_21
set_option maxRecDepth 100000 in
set_option maxHeartbeats 1000000 in
theorem j_X6_octet_11 {p : Program} {l : Launch} {e : Env} {s : State} {m : MethodId} {args : Array Value} {below : List Frame} {meth : Method} {c : Code} {D : va_G} {aC : Nat → ClassId} {b0 fu : Nat} {σ0 τ : tM} {v : Int32}  (C : tCx p s m args meth c yX6_octet.cls cX6_octet 2 (some .byte) D aC b0 σ0) (htab : ∀ x ∈ c.exceptionTable.toList, False) (hin : meth.name = yX6_octet.name)   {σ : tM} (hm : J_X6_octet_11 b0 fu   σ = some (v, τ)) : tX p l e s m args below meth c 2 0 0 D aC b0 σ0 (.inl (some (.int v))) τ 11 [] [] σ := by
  unfold J_X6_octet_11 at hm
  refine zx_iconst (v := 0) C dX6_octet_11 (by decide) ?_
  refine zx_goto C 21 dX6_octet_12 (by decide) ?_
  exact zx_lv [] [] rfl (j_X6_octet_21 C htab hin    hm)
set_option maxRecDepth 100000 in
set_option maxHeartbeats 1000000 in
theorem c_X6_octet {l : Launch} {D : va_G} {aC : Nat → ClassId} {b0 fu : Nat} {a0 : Nat} {p0 : Int32} {σ τ : tM} {v : Int32} (hm : m_X6_octet b0 fu a0 p0 σ = some (v, τ)) : tMt l D aC b0 yX6_octet (Cond.code yX6_octet cX6_octet 2 (some .byte)) 0 0 [.ref (a0), .int (p0)] σ (.inl (some (.int v))) τ := by
  unfold m_X6_octet at hm
  obtain ⟨hg, hm⟩ := grw_e hm
  refine tMt_of (n := 0) rfl (Nat.le_of_ble_eq_true rfl) hg ?_
  intro p e s m below meth c C htab hin
  refine zx_lv [0, 1] [(0, .ref (a0)), (1, .int (p0))] rfl ?_
  refine zx_iload_n C dX6_octet_0 1 rfl ?_
  refine zx_if_lt C 11 dX6_octet_1 (by decide) (fun c1 => ?_) (fun c1 => ?_)
  · replace hm := ip_e hm c1
    exact zx_lv [] [] rfl (j_X6_octet_11 C htab hin    hm)
  · replace hm := in_e hm c1
    refine zx_iload_n C dX6_octet_4 1 rfl ?_
    refine zx_sipush (v := 4000) C dX6_octet_5 (by decide) ?_
    refine zx_icmp_lt C 15 dX6_octet_8 (by decide) (fun c3 => ?_) (fun c3 => ?_)
    · replace hm := ip_e hm c3
      refine zx_aload_n C dX6_octet_15 0 rfl ?_
      obtain ⟨k4, i5, hm⟩ := ckO_e hm
      obtain ⟨a6, h7, hm⟩ := osm_e hm
      refine zx_get (j := 0) C tC_6 k4 i5 ⟨by decide, Or.inl W_2_42⟩ dX6_octet_16 (.ref a6) (rf_s h7) ?_
      refine zx_iload_n C dX6_octet_19 1 rfl ?_
      obtain ⟨n10, k8, i9, hm⟩ := ckR_e hm
      obtain ⟨h11, hm⟩ := ckI_e hm
      refine zx_bald C k8 i9 h11 dX6_octet_20 ?_
      exact zx_lv [] [] rfl (j_X6_octet_21 C htab hin    hm)
    · replace hm := in_e hm c3
      exact zx_lv [] [] rfl (j_X6_octet_11 C htab hin    hm)
abbrev cX6_canBePath : ByteArray := prog_8_method_6_code
def yX6_canBePath : MethodName := ⟨"SyncTree$Tape", "canBePath", "(I)Z"⟩
theorem Y_X6_canBePath : tY yX6_canBePath cX6_canBePath 3 (some .boolean) 1 := ⟨W_3_27, W_1_8, ⟨by decide +kernel, by decide +kernel⟩, by decide +kernel⟩
theorem dX6_canBePath_0 : decode cX6_canBePath 0 = .ok (.iload_n 1, 1) := by decide +kernel
theorem dX6_canBePath_1 : decode cX6_canBePath 1 = .ok (.ifCond .lt 17, 3) := by decide +kernel
theorem dX6_canBePath_4 : decode cX6_canBePath 4 = .ok (.iload_n 1, 1) := by decide +kernel
theorem dX6_canBePath_5 : decode cX6_canBePath 5 = .ok (.bipush 120, 2) := by decide +kernel
theorem dX6_canBePath_7 : decode cX6_canBePath 7 = .ok (.if_icmp .gt 11, 3) := by decide +kernel
theorem dX6_canBePath_10 : decode cX6_canBePath 10 = .ok (.iload_n 1, 1) := by decide +kernel
theorem dX6_canBePath_11 : decode cX6_canBePath 11 = .ok (.aload_n 0, 1) := by decide +kernel
theorem dX6_canBePath_12 : decode cX6_canBePath 12 = .ok (.getfield 15, 3) := by decide +kernel
theorem dX6_canBePath_15 : decode cX6_canBePath 15 = .ok (.if_icmp .le 5, 3) := by decide +kernel
theorem dX6_canBePath_18 : decode cX6_canBePath 18 = .ok (.iconst 0, 1) := by decide +kernel
theorem dX6_canBePath_19 : decode cX6_canBePath 19 = .ok (.ireturn, 1) := by decide +kernel
theorem dX6_canBePath_20 : decode cX6_canBePath 20 = .ok (.iconst 0, 1) := by decide +kernel
theorem dX6_canBePath_21 : decode cX6_canBePath 21 = .ok (.istore_n 2, 1) := by decide +kernel
theorem dX6_canBePath_22 : decode cX6_canBePath 22 = .ok (.iload_n 2, 1) := by decide +kernel
theorem dX6_canBePath_23 : decode cX6_canBePath 23 = .ok (.iload_n 1, 1) := by decide +kernel
theorem dX6_canBePath_24 : decode cX6_canBePath 24 = .ok (.if_icmp .ge 33, 3) := by decide +kernel
theorem dX6_canBePath_27 : decode cX6_canBePath 27 = .ok (.aload_n 0, 1) := by decide +kernel
theorem dX6_canBePath_28 : decode cX6_canBePath 28 = .ok (.getfield 11, 3) := by decide +kernel
theorem dX6_canBePath_31 : decode cX6_canBePath 31 = .ok (.iload_n 2, 1) := by decide +kernel
theorem dX6_canBePath_32 : decode cX6_canBePath 32 = .ok (.baload, 1) := by decide +kernel
theorem dX6_canBePath_33 : decode cX6_canBePath 33 = .ok (.bipush 33, 2) := by decide +kernel
theorem dX6_canBePath_35 : decode cX6_canBePath 35 = .ok (.if_icmp .lt 14, 3) := by decide +kernel
theorem dX6_canBePath_38 : decode cX6_canBePath 38 = .ok (.aload_n 0, 1) := by decide +kernel
theorem dX6_canBePath_39 : decode cX6_canBePath 39 = .ok (.getfield 11, 3) := by decide +kernel
theorem dX6_canBePath_42 : decode cX6_canBePath 42 = .ok (.iload_n 2, 1) := by decide +kernel
theorem dX6_canBePath_43 : decode cX6_canBePath 43 = .ok (.baload, 1) := by decide +kernel
theorem dX6_canBePath_44 : decode cX6_canBePath 44 = .ok (.bipush 126, 2) := by decide +kernel
theorem dX6_canBePath_46 : decode cX6_canBePath 46 = .ok (.if_icmp .le 5, 3) := by decide +kernel
theorem dX6_canBePath_49 : decode cX6_canBePath 49 = .ok (.iconst 0, 1) := by decide +kernel
theorem dX6_canBePath_50 : decode cX6_canBePath 50 = .ok (.ireturn, 1) := by decide +kernel
theorem dX6_canBePath_51 : decode cX6_canBePath 51 = .ok (.iinc 2 1, 3) := by decide +kernel
theorem dX6_canBePath_54 : decode cX6_canBePath 54 = .ok (.goto (-32), 3) := by decide +kernel
theorem dX6_canBePath_57 : decode cX6_canBePath 57 = .ok (.iconst 1, 1) := by decide +kernel
theorem dX6_canBePath_58 : decode cX6_canBePath 58 = .ok (.ireturn, 1) := by decide +kernel
def J_X6_canBePath_18 (b0 fu : Nat)   (σ : tM) : Option ((Int32) × tM) := some (0, σ)
def J_X6_canBePath_49 (b0 fu : Nat)   (σ : tM) : Option ((Int32) × tM) := some (0, σ)
def L_X6_canBePath_22 (b0 fu : Nat)  : Nat → Nat → Int32 → Int32 → tM → Option ((Int32) × tM)
  | 0, _, _, _, _ => none
  | n + 1, x0, x1, x2, σ => ltb (L_X6_canBePath_22 b0 fu  n) (fun rc22 => if (x1) ≤ (x2) then some (1, σ) else ckO b0 (σ) (x0) 6 (osm (tA (σ) (x0) 0) (fun a9 => ckR b0 (σ) (a9) 1 (fun n13 => ckI (x2) (n13) (if (tI (σ) (a9) ((x2).toNatClampNeg)) < (33) then J_X6_canBePath_49 b0 fu    (σ) else osm (tA (σ) (x0) 0) (fun a16 => ckR b0 (σ) (a16) 1 (fun n20 => ckI (x2) (n20) (if (tI (σ) (a16) ((x2).toNatClampNeg)) ≤ (126) then ltb ((x2) + Int32.ofInt 1) (fun y23 => rc22 (x0) (x1) (y23) (σ)) else J_X6_canBePath_49 b0 fu    (σ)))))))))
def m_X6_canBePath (b0 fu : Nat) (a0 : Nat) (p0 : Int32) (σ : tM) : Option ((Int32) × tM) := grw σ (if (p0) < (0) then J_X6_canBePath_18 b0 fu    (σ) else if (120) < (p0) then J_X6_canBePath_18 b0 fu    (σ) else ckO b0 (σ) (a0) 6 (if (p0) ≤ (tI (σ) (a0) 1) then L_X6_canBePath_22 b0 fu  (fu) (a0) (p0) (0) (σ) else J_X6_canBePath_18 b0 fu    (σ)))
set_option maxRecDepth 100000 in
set_option maxHeartbeats 1000000 in
theorem j_X6_canBePath_18 {p : Program} {l : Launch} {e : Env} {s : State} {m : MethodId} {args : Array Value} {below : List Frame} {meth : Method} {c : Code} {D : va_G} {aC : Nat → ClassId} {b0 fu : Nat} {σ0 τ : tM} {v : Int32}  (C : tCx p s m args meth c yX6_canBePath.cls cX6_canBePath 3 (some .boolean) D aC b0 σ0) (htab : ∀ x ∈ c.exceptionTable.toList, False) (hin : meth.name = yX6_canBePath.name)   {σ : tM} (hm : J_X6_canBePath_18 b0 fu   σ = some (v, τ)) : tX p l e s m args below meth c 3 0 0 D aC b0 σ0 (.inl (some (.int v))) τ 18 [] [] σ := by
  unfold J_X6_canBePath_18 at hm
  refine zx_iconst (v := 0) C dX6_canBePath_18 (by decide) ?_
  obtain ⟨rfl, rfl⟩ := ret_e hm
  exact zx_zret C rfl (by decide) rfl rfl dX6_canBePath_19
set_option maxRecDepth 100000 in
set_option maxHeartbeats 1000000 in
theorem j_X6_canBePath_49 {p : Program} {l : Launch} {e : Env} {s : State} {m : MethodId} {args : Array Value} {below : List Frame} {meth : Method} {c : Code} {D : va_G} {aC : Nat → ClassId} {b0 fu : Nat} {σ0 τ : tM} {v : Int32}  (C : tCx p s m args meth c yX6_canBePath.cls cX6_canBePath 3 (some .boolean) D aC b0 σ0) (htab : ∀ x ∈ c.exceptionTable.toList, False) (hin : meth.name = yX6_canBePath.name)   {σ : tM} (hm : J_X6_canBePath_49 b0 fu   σ = some (v, τ)) : tX p l e s m args below meth c 3 0 0 D aC b0 σ0 (.inl (some (.int v))) τ 49 [] [] σ := by
  unfold J_X6_canBePath_49 at hm
  refine zx_iconst (v := 0) C dX6_canBePath_49 (by decide) ?_
  obtain ⟨rfl, rfl⟩ := ret_e hm
  exact zx_zret C rfl (by decide) rfl rfl dX6_canBePath_50
set_option maxRecDepth 100000 in
set_option maxHeartbeats 1000000 in
theorem l_X6_canBePath_22 {p : Program} {l : Launch} {e : Env} {s : State} {m : MethodId} {args : Array Value} {below : List Frame} {meth : Method} {c : Code} {D : va_G} {aC : Nat → ClassId} {b0 fu : Nat} {σ0 τ : tM} {v : Int32}  (C : tCx p s m args meth c yX6_canBePath.cls cX6_canBePath 3 (some .boolean) D aC b0 σ0) (htab : ∀ x ∈ c.exceptionTable.toList, False) (hin : meth.name = yX6_canBePath.name)  : ∀ (n : Nat) (x0 : Nat) (x1 : Int32) (x2 : Int32) (σ : tM), L_X6_canBePath_22 b0 fu  n x0 x1 x2 σ = some (v, τ) → tX p l e s m args below meth c 3 0 0 D aC b0 σ0 (.inl (some (.int v))) τ 22 [(0, .ref (x0)), (1, .int (x1)), (2, .int (x2))] [] σ := by
  intro n
  induction n with
  | zero => intro x0 x1 x2 σ hm; unfold L_X6_canBePath_22 at hm; cases hm
  | succ n ih =>
    intro x0 x1 x2 σ hm
    unfold L_X6_canBePath_22 at hm
    obtain ⟨rc22, hrc⟩ : ∃ z, z = L_X6_canBePath_22 b0 fu  n := ⟨_, rfl⟩
    replace hm := ltb_e hm hrc
    rw [← hrc] at ih
    have hrc22 := ih
    clear ih hrc
    refine zx_iload_n C dX6_canBePath_22 2 rfl ?_
    refine zx_iload_n C dX6_canBePath_23 1 rfl ?_
    refine zx_icmp_ge C 57 dX6_canBePath_24 (by decide) (fun c6 => ?_) (fun c6 => ?_)
    · replace hm := ip_e hm c6
      refine zx_iconst (v := 1) C dX6_canBePath_57 (by decide) ?_
      obtain ⟨rfl, rfl⟩ := ret_e hm
      exact zx_zret C rfl (by decide) rfl rfl dX6_canBePath_58
    · replace hm := in_e hm c6
      refine zx_aload_n C dX6_canBePath_27 0 rfl ?_
      obtain ⟨k7, i8, hm⟩ := ckO_e hm
      obtain ⟨a9, h10, hm⟩ := osm_e hm
      refine zx_get (j := 0) C tC_6 k7 i8 ⟨by decide, Or.inl W_2_42⟩ dX6_canBePath_28 (.ref a9) (rf_s h10) ?_
      refine zx_iload_n C dX6_canBePath_31 2 rfl ?_
      obtain ⟨n13, k11, i12, hm⟩ := ckR_e hm
      obtain ⟨h14, hm⟩ := ckI_e hm
      refine zx_bald C k11 i12 h14 dX6_canBePath_32 ?_
      refine zx_bipush (v := 33) C dX6_canBePath_33 (by decide) ?_
      refine zx_icmp_lt C 49 dX6_canBePath_35 (by decide) (fun c15 => ?_) (fun c15 => ?_)
      · replace hm := ip_e hm c15
        exact zx_lv [] [] rfl (j_X6_canBePath_49 C htab hin    hm)
      · replace hm := in_e hm c15
        refine zx_aload_n C dX6_canBePath_38 0 rfl ?_
        obtain ⟨a16, h17, hm⟩ := osm_e hm
        refine zx_get (j := 0) C tC_6 k7 i8 ⟨by decide, Or.inl W_2_42⟩ dX6_canBePath_39 (.ref a16) (rf_s h17) ?_
        refine zx_iload_n C dX6_canBePath_42 2 rfl ?_
        obtain ⟨n20, k18, i19, hm⟩ := ckR_e hm
        obtain ⟨h21, hm⟩ := ckI_e hm
        refine zx_bald C k18 i19 h21 dX6_canBePath_43 ?_
        refine zx_bipush (v := 126) C dX6_canBePath_44 (by decide) ?_
        refine zx_icmp_le C 51 dX6_canBePath_46 (by decide) (fun c22 => ?_) (fun c22 => ?_)
        · replace hm := ip_e hm c22
          obtain ⟨y23, hy23⟩ : ∃ z : Int32, z = (x2) + Int32.ofInt 1 := ⟨_, rfl⟩
          replace hm := ltb_e hm hy23
          refine zx_iinc C [(2, .int (y23)), (0, .ref (x0)), (1, .int (x1))] dX6_canBePath_51 2 rfl hy23.symm (by decide) rfl ?_
          refine zx_goto C 22 dX6_canBePath_54 (by decide) ?_
          exact zx_lv [1, 2, 0] [(0, .ref (x0)), (1, .int (x1)), (2, .int (y23))] rfl (hrc22 _ _ _ _ hm)
        · replace hm := in_e hm c22
          exact zx_lv [] [] rfl (j_X6_canBePath_49 C htab hin    hm)
set_option maxRecDepth 100000 in
set_option maxHeartbeats 1000000 in
theorem c_X6_canBePath {l : Launch} {D : va_G} {aC : Nat → ClassId} {b0 fu : Nat} {a0 : Nat} {p0 : Int32} {σ τ : tM} {v : Int32} (hm : m_X6_canBePath b0 fu a0 p0 σ = some (v, τ)) : tMt l D aC b0 yX6_canBePath (Cond.code yX6_canBePath cX6_canBePath 3 (some .boolean)) 0 0 [.ref (a0), .int (p0)] σ (.inl (some (.int v))) τ := by
  unfold m_X6_canBePath at hm
  obtain ⟨hg, hm⟩ := grw_e hm
  refine tMt_of (n := 0) rfl (Nat.le_of_ble_eq_true rfl) hg ?_
  intro p e s m below meth c C htab hin
  refine zx_lv [0, 1] [(0, .ref (a0)), (1, .int (p0))] rfl ?_
  refine zx_iload_n C dX6_canBePath_0 1 rfl ?_
  refine zx_if_lt C 18 dX6_canBePath_1 (by decide) (fun c1 => ?_) (fun c1 => ?_)
  · replace hm := ip_e hm c1
    exact zx_lv [] [] rfl (j_X6_canBePath_18 C htab hin    hm)
  · replace hm := in_e hm c1
    refine zx_iload_n C dX6_canBePath_4 1 rfl ?_
    refine zx_bipush (v := 120) C dX6_canBePath_5 (by decide) ?_
    refine zx_icmp_gt C 18 dX6_canBePath_7 (by decide) (fun c2 => ?_) (fun c2 => ?_)
    · replace hm := ip_e hm c2
      exact zx_lv [] [] rfl (j_X6_canBePath_18 C htab hin    hm)
    · replace hm := in_e hm c2
      refine zx_iload_n C dX6_canBePath_10 1 rfl ?_
      refine zx_aload_n C dX6_canBePath_11 0 rfl ?_
      obtain ⟨k3, i4, hm⟩ := ckO_e hm
      refine zx_get (j := 1) C tC_6 k3 i4 ⟨by decide, Or.inl W_2_43⟩ dX6_canBePath_12 (.int (tI (σ) (a0) 1)) rfl ?_
      refine zx_icmp_le C 20 dX6_canBePath_15 (by decide) (fun c5 => ?_) (fun c5 => ?_)
      · replace hm := ip_e hm c5
        refine zx_iconst (v := 0) C dX6_canBePath_20 (by decide) ?_
        refine zx_istore_n C [(2, .int (0)), (0, .ref (a0)), (1, .int (p0))] dX6_canBePath_21 rfl (by decide) rfl ?_
        exact zx_lv [1, 2, 0] [(0, .ref (a0)), (1, .int (p0)), (2, .int (0))] rfl (l_X6_canBePath_22 C htab hin  _ _ _ _ _ hm)
      · replace hm := in_e hm c5
        exact zx_lv [] [] rfl (j_X6_canBePath_18 C htab hin    hm)
abbrev cX7_init : ByteArray := prog_9_method_1_code
def yX7_init : MethodName := ⟨"SyncTree$Transaction", "<init>", "(IIIIII)V"⟩
theorem Y_X7_init : tY yX7_init cX7_init 7 none 6 := ⟨W_4_17, W_1_19, ⟨by decide +kernel, by decide +kernel⟩, by decide +kernel⟩
theorem dX7_init_0 : decode cX7_init 0 = .ok (.aload_n 0, 1) := by decide +kernel
theorem dX7_init_1 : decode cX7_init 1 = .ok (.invokespecial 1, 3) := by decide +kernel
theorem dX7_init_4 : decode cX7_init 4 = .ok (.aload_n 0, 1) := by decide +kernel
theorem dX7_init_5 : decode cX7_init 5 = .ok (.iload_n 1, 1) := by decide +kernel
theorem dX7_init_6 : decode cX7_init 6 = .ok (.putfield 7, 3) := by decide +kernel
theorem dX7_init_9 : decode cX7_init 9 = .ok (.aload_n 0, 1) := by decide +kernel
theorem dX7_init_10 : decode cX7_init 10 = .ok (.iload_n 2, 1) := by decide +kernel
theorem dX7_init_11 : decode cX7_init 11 = .ok (.putfield 13, 3) := by decide +kernel
theorem dX7_init_14 : decode cX7_init 14 = .ok (.aload_n 0, 1) := by decide +kernel
theorem dX7_init_15 : decode cX7_init 15 = .ok (.iload_n 3, 1) := by decide +kernel
theorem dX7_init_16 : decode cX7_init 16 = .ok (.putfield 16, 3) := by decide +kernel
theorem dX7_init_19 : decode cX7_init 19 = .ok (.aload_n 0, 1) := by decide +kernel
theorem dX7_init_20 : decode cX7_init 20 = .ok (.iload 4, 2) := by decide +kernel
theorem dX7_init_22 : decode cX7_init 22 = .ok (.putfield 19, 3) := by decide +kernel
theorem dX7_init_25 : decode cX7_init 25 = .ok (.aload_n 0, 1) := by decide +kernel
theorem dX7_init_26 : decode cX7_init 26 = .ok (.iconst 0, 1) := by decide +kernel
theorem dX7_init_27 : decode cX7_init 27 = .ok (.iload 5, 2) := by decide +kernel
theorem dX7_init_29 : decode cX7_init 29 = .ok (.invokestatic 22, 3) := by decide +kernel
theorem dX7_init_32 : decode cX7_init 32 = .ok (.newarray .int, 2) := by decide +kernel
theorem dX7_init_34 : decode cX7_init 34 = .ok (.putfield 28, 3) := by decide +kernel
theorem dX7_init_37 : decode cX7_init 37 = .ok (.aload_n 0, 1) := by decide +kernel
theorem dX7_init_38 : decode cX7_init 38 = .ok (.iconst 0, 1) := by decide +kernel
theorem dX7_init_39 : decode cX7_init 39 = .ok (.iload 5, 2) := by decide +kernel
theorem dX7_init_41 : decode cX7_init 41 = .ok (.invokestatic 22, 3) := by decide +kernel
theorem dX7_init_44 : decode cX7_init 44 = .ok (.anewarray 32, 3) := by decide +kernel
theorem dX7_init_47 : decode cX7_init 47 = .ok (.putfield 34, 3) := by decide +kernel
theorem dX7_init_50 : decode cX7_init 50 = .ok (.aload_n 0, 1) := by decide +kernel
theorem dX7_init_51 : decode cX7_init 51 = .ok (.iconst 0, 1) := by decide +kernel
theorem dX7_init_52 : decode cX7_init 52 = .ok (.iload 6, 2) := by decide +kernel
theorem dX7_init_54 : decode cX7_init 54 = .ok (.invokestatic 22, 3) := by decide +kernel
theorem dX7_init_57 : decode cX7_init 57 = .ok (.newarray .int, 2) := by decide +kernel
theorem dX7_init_59 : decode cX7_init 59 = .ok (.putfield 38, 3) := by decide +kernel
theorem dX7_init_62 : decode cX7_init 62 = .ok (.return_, 1) := by decide +kernel
def m_X7_init (b0 fu : Nat) (a0 : Nat) (p0 : Int32) (p1 : Int32) (p2 : Int32) (p3 : Int32) (p4 : Int32) (p5 : Int32) (σ : tM) : Option ((Unit) × tM) := grw σ (ckO b0 (σ) (a0) 7 (ckN ((if ((0 : Int32)) < (p4) then (p4) else (0) : Int32)) (ltb (sN (sI (sI (sI (sI (σ) (a0) 0 (p0)) (a0) 1 (p1)) (a0) 2 (p2)) (a0) 3 (p3)) (b0 + tn (sI (sI (sI (sI (σ) (a0) 0 (p0)) (a0) 1 (p1)) (a0) 2 (p2)) (a0) 3 (p3))) (.inr (0, ((if ((0 : Int32)) < (p4) then (p4) else (0) : Int32)).toNatClampNeg)) (((if ((0 : Int32)) < (p4) then (p4) else (0) : Int32)).toNatClampNeg)) (fun ρ3 => ckO b0 (ρ3) (a0) 7 (ckN ((if ((0 : Int32)) < (p4) then (p4) else (0) : Int32)) (ltb (sN (sA (ρ3) (a0) 4 (some (b0 + tn (sI (sI (sI (sI (σ) (a0) 0 (p0)) (a0) 1 (p1)) (a0) 2 (p2)) (a0) 3 (p3))))) (b0 + tn (sA (ρ3) (a0) 4 (some (b0 + tn (sI (sI (sI (sI (σ) (a0) 0 (p0)) (a0) 1 (p1)) (a0) 2 (p2)) (a0) 3 (p3)))))) (.inr (4, ((if ((0 : Int32)) < (p4) then (p4) else (0) : Int32)).toNatClampNeg)) (((if ((0 : Int32)) < (p4) then (p4) else (0) : Int32)).toNatClampNeg)) (fun ρ6 => ckO b0 (ρ6) (a0) 7 (ckN ((if ((0 : Int32)) < (p5) then (p5) else (0) : Int32)) (ltb (sN (sA (ρ6) (a0) 5 (some (b0 + tn (sA (ρ3) (a0) 4 (some (b0 + tn (sI (sI (sI (sI (σ) (a0) 0 (p0)) (a0) 1 (p1)) (a0) 2 (p2)) (a0) 3 (p3)))))))) (b0 + tn (sA (ρ6) (a0) 5 (some (b0 + tn (sA (ρ3) (a0) 4 (some (b0 + tn (sI (sI (sI (sI (σ) (a0) 0 (p0)) (a0) 1 (p1)) (a0) 2 (p2)) (a0) 3 (p3))))))))) (.inr (0, ((if ((0 : Int32)) < (p5) then (p5) else (0) : Int32)).toNatClampNeg)) (((if ((0 : Int32)) < (p5) then (p5) else (0) : Int32)).toNatClampNeg)) (fun ρ9 => ckO b0 (ρ9) (a0) 7 (some ((), sA (ρ9) (a0) 6 (some (b0 + tn (sA (ρ6) (a0) 5 (some (b0 + tn (sA (ρ3) (a0) 4 (some (b0 + tn (sI (sI (sI (sI (σ) (a0) 0 (p0)) (a0) 1 (p1)) (a0) 2 (p2)) (a0) 3 (p3))))))))))))))))))))))
set_option maxRecDepth 100000 in
set_option maxHeartbeats 1000000 in
theorem c_X7_init {l : Launch} {D : va_G} {aC : Nat → ClassId} {b0 fu : Nat} {a0 : Nat} {p0 : Int32} {p1 : Int32} {p2 : Int32} {p3 : Int32} {p4 : Int32} {p5 : Int32} {σ τ : tM} {v : Unit} (hm : m_X7_init b0 fu a0 p0 p1 p2 p3 p4 p5 σ = some (v, τ)) : tMt l D aC b0 yX7_init (Cond.code yX7_init cX7_init 7 none) 1 21 [.ref (a0), .int (p0), .int (p1), .int (p2), .int (p3), .int (p4), .int (p5)] σ (.inl none) τ := by
  unfold m_X7_init at hm
  obtain ⟨hg, hm⟩ := grw_e hm
  refine tMt_of (n := 0) rfl (Nat.le_of_ble_eq_true rfl) hg ?_
  intro p e s m below meth c C htab hin
  refine zx_lv [0, 1, 2, 3, 4, 5, 6] [(0, .ref (a0)), (1, .int (p0)), (2, .int (p1)), (3, .int (p2)), (4, .int (p3)), (5, .int (p4)), (6, .int (p5))] rfl ?_
  refine zx_aload_n C dX7_init_0 0 rfl ?_
  refine zx_obj C W_4_18 W_1_26 W_1_27 (by decide) (by decide) (Nat.le_of_ble_eq_true rfl) dX7_init_1 ?_
  refine zx_aload_n C dX7_init_4 0 rfl ?_
  refine zx_iload_n C dX7_init_5 1 rfl ?_
  obtain ⟨k1, i2, hm⟩ := ckO_e hm
  refine zx_putF (j := 0) (ρ := sI (σ) (a0) 0 (p0)) C hin tC_7 k1 i2 (by decide) W_4_21 rfl rfl rfl rfl (sI_ok (fun _ => rfl)) dX7_init_6 ?_
  refine zx_aload_n C dX7_init_9 0 rfl ?_
  refine zx_iload_n C dX7_init_10 2 rfl ?_
  refine zx_putF (j := 1) (ρ := sI (sI (σ) (a0) 0 (p0)) (a0) 1 (p1)) C hin tC_7 k1 i2 (by decide) W_4_23 rfl rfl rfl rfl (sI_ok (fun _ => rfl)) dX7_init_11 ?_
  refine zx_aload_n C dX7_init_14 0 rfl ?_
  refine zx_iload_n C dX7_init_15 3 rfl ?_
  refine zx_putF (j := 2) (ρ := sI (sI (sI (σ) (a0) 0 (p0)) (a0) 1 (p1)) (a0) 2 (p2)) C hin tC_7 k1 i2 (by decide) W_4_25 rfl rfl rfl rfl (sI_ok (fun _ => rfl)) dX7_init_16 ?_
  refine zx_aload_n C dX7_init_19 0 rfl ?_
  refine zx_iload C dX7_init_20 4 rfl ?_
  refine zx_putF (j := 3) (ρ := sI (sI (sI (sI (σ) (a0) 0 (p0)) (a0) 1 (p1)) (a0) 2 (p2)) (a0) 3 (p3)) C hin tC_7 k1 i2 (by decide) W_4_27 rfl rfl rfl rfl (sI_ok (fun _ => rfl)) dX7_init_22 ?_
  refine zx_aload_n C dX7_init_25 0 rfl ?_
  refine zx_iconst (v := 0) C dX7_init_26 (by decide) ?_
  refine zx_iload C dX7_init_27 5 rfl ?_
  refine zx_max C W_4_19 W_2_109 W_1_10 W_2_110 (by decide) (by decide) (Nat.le_of_ble_eq_true rfl) dX7_init_29 ?_
  obtain ⟨h16, h17, hm⟩ := ckN_e hm
  refine zx_newI C W_1_85 h16 h17 dX7_init_32 ?_
  refine zx_mem (fun ρ3 hρ3 => ?_)
  replace hm := ltb_e hm hρ3
  obtain ⟨k4, i5, hm⟩ := ckO_e hm
  refine zx_putF (j := 4) (ρ := sA (ρ3) (a0) 4 (some (b0 + tn (sI (sI (sI (sI (σ) (a0) 0 (p0)) (a0) 1 (p1)) (a0) 2 (p2)) (a0) 3 (p3))))) C hin tC_7 k4 i5 (by decide) W_4_29 rfl rfl rfl rfl (sA_ok (fun _ => rfl)) dX7_init_34 ?_
  refine zx_aload_n C dX7_init_37 0 rfl ?_
  refine zx_iconst (v := 0) C dX7_init_38 (by decide) ?_
  refine zx_iload C dX7_init_39 5 rfl ?_
  refine zx_max C W_4_19 W_2_109 W_1_10 W_2_110 (by decide) (by decide) (Nat.le_of_ble_eq_true rfl) dX7_init_41 ?_
  obtain ⟨h14, h15, hm⟩ := ckN_e hm
  refine zx_newR C W_4_20 W_1_35 h14 h15 dX7_init_44 ?_
  refine zx_mem (fun ρ6 hρ6 => ?_)
  replace hm := ltb_e hm hρ6
  obtain ⟨k7, i8, hm⟩ := ckO_e hm
  refine zx_putF (j := 5) (ρ := sA (ρ6) (a0) 5 (some (b0 + tn (sA (ρ3) (a0) 4 (some (b0 + tn (sI (sI (sI (sI (σ) (a0) 0 (p0)) (a0) 1 (p1)) (a0) 2 (p2)) (a0) 3 (p3)))))))) C hin tC_7 k7 i8 (by decide) W_4_31 rfl rfl rfl rfl (sA_ok (fun _ => rfl)) dX7_init_47 ?_
  refine zx_aload_n C dX7_init_50 0 rfl ?_
  refine zx_iconst (v := 0) C dX7_init_51 (by decide) ?_
  refine zx_iload C dX7_init_52 6 rfl ?_
  refine zx_max C W_4_19 W_2_109 W_1_10 W_2_110 (by decide) (by decide) (Nat.le_of_ble_eq_true rfl) dX7_init_54 ?_
  obtain ⟨h12, h13, hm⟩ := ckN_e hm
  refine zx_newI C W_1_85 h12 h13 dX7_init_57 ?_
  refine zx_mem (fun ρ9 hρ9 => ?_)
  replace hm := ltb_e hm hρ9
  obtain ⟨k10, i11, hm⟩ := ckO_e hm
  refine zx_putF (j := 6) (ρ := sA (ρ9) (a0) 6 (some (b0 + tn (sA (ρ6) (a0) 5 (some (b0 + tn (sA (ρ3) (a0) 4 (some (b0 + tn (sI (sI (sI (sI (σ) (a0) 0 (p0)) (a0) 1 (p1)) (a0) 2 (p2)) (a0) 3 (p3))))))))))) C hin tC_7 k10 i11 (by decide) W_4_33 rfl rfl rfl rfl (sA_ok (fun _ => rfl)) dX7_init_59 ?_
  obtain ⟨rfl, rfl⟩ := ret_e hm
  exact zx_vret C rfl rfl rfl dX7_init_62
abbrev cX7_revokes : ByteArray := prog_9_method_2_code
def yX7_revokes : MethodName := ⟨"SyncTree$Transaction", "revokes", "(I)Z"⟩
theorem Y_X7_revokes : tY yX7_revokes cX7_revokes 3 (some .boolean) 1 := ⟨W_4_4, W_1_19, ⟨by decide +kernel, by decide +kernel⟩, by decide +kernel⟩
theorem dX7_revokes_0 : decode cX7_revokes 0 = .ok (.iconst 0, 1) := by decide +kernel
theorem dX7_revokes_1 : decode cX7_revokes 1 = .ok (.istore_n 2, 1) := by decide +kernel
theorem dX7_revokes_2 : decode cX7_revokes 2 = .ok (.iload_n 2, 1) := by decide +kernel
theorem dX7_revokes_3 : decode cX7_revokes 3 = .ok (.aload_n 0, 1) := by decide +kernel
theorem dX7_revokes_4 : decode cX7_revokes 4 = .ok (.getfield 38, 3) := by decide +kernel
theorem dX7_revokes_7 : decode cX7_revokes 7 = .ok (.arraylength, 1) := by decide +kernel
theorem dX7_revokes_8 : decode cX7_revokes 8 = .ok (.if_icmp .ge 21, 3) := by decide +kernel
theorem dX7_revokes_11 : decode cX7_revokes 11 = .ok (.aload_n 0, 1) := by decide +kernel
theorem dX7_revokes_12 : decode cX7_revokes 12 = .ok (.getfield 38, 3) := by decide +kernel
theorem dX7_revokes_15 : decode cX7_revokes 15 = .ok (.iload_n 2, 1) := by decide +kernel
theorem dX7_revokes_16 : decode cX7_revokes 16 = .ok (.iaload, 1) := by decide +kernel
theorem dX7_revokes_17 : decode cX7_revokes 17 = .ok (.iload_n 1, 1) := by decide +kernel
theorem dX7_revokes_18 : decode cX7_revokes 18 = .ok (.if_icmp .ne 5, 3) := by decide +kernel
theorem dX7_revokes_21 : decode cX7_revokes 21 = .ok (.iconst 1, 1) := by decide +kernel
theorem dX7_revokes_22 : decode cX7_revokes 22 = .ok (.ireturn, 1) := by decide +kernel
theorem dX7_revokes_23 : decode cX7_revokes 23 = .ok (.iinc 2 1, 3) := by decide +kernel
theorem dX7_revokes_26 : decode cX7_revokes 26 = .ok (.goto (-24), 3) := by decide +kernel
theorem dX7_revokes_29 : decode cX7_revokes 29 = .ok (.iconst 0, 1) := by decide +kernel
theorem dX7_revokes_30 : decode cX7_revokes 30 = .ok (.ireturn, 1) := by decide +kernel
def L_X7_revokes_2 (b0 fu : Nat)  : Nat → Nat → Int32 → Int32 → tM → Option ((Int32) × tM)
  | 0, _, _, _, _ => none
  | n + 1, x0, x1, x2, σ => ltb (L_X7_revokes_2 b0 fu  n) (fun rc2 => ckO b0 (σ) (x0) 7 (osm (tA (σ) (x0) 6) (fun a3 => ckR b0 (σ) (a3) 0 (fun n7 => if (nI n7) ≤ (x2) then some (0, σ) else osm (tA (σ) (x0) 6) (fun a9 => ckR b0 (σ) (a9) 0 (fun n13 => ckI (x2) (n13) (if (tI (σ) (a9) ((x2).toNatClampNeg)) = (x1) then some (1, σ) else ltb ((x2) + Int32.ofInt 1) (fun y16 => rc2 (x0) (x1) (y16) (σ)))))))))
def m_X7_revokes (b0 fu : Nat) (a0 : Nat) (p0 : Int32) (σ : tM) : Option ((Int32) × tM) := grw σ (L_X7_revokes_2 b0 fu  (fu) (a0) (p0) (0) (σ))
set_option maxRecDepth 100000 in
set_option maxHeartbeats 1000000 in
theorem l_X7_revokes_2 {p : Program} {l : Launch} {e : Env} {s : State} {m : MethodId} {args : Array Value} {below : List Frame} {meth : Method} {c : Code} {D : va_G} {aC : Nat → ClassId} {b0 fu : Nat} {σ0 τ : tM} {v : Int32}  (C : tCx p s m args meth c yX7_revokes.cls cX7_revokes 3 (some .boolean) D aC b0 σ0) (htab : ∀ x ∈ c.exceptionTable.toList, False) (hin : meth.name = yX7_revokes.name)  : ∀ (n : Nat) (x0 : Nat) (x1 : Int32) (x2 : Int32) (σ : tM), L_X7_revokes_2 b0 fu  n x0 x1 x2 σ = some (v, τ) → tX p l e s m args below meth c 3 0 0 D aC b0 σ0 (.inl (some (.int v))) τ 2 [(0, .ref (x0)), (1, .int (x1)), (2, .int (x2))] [] σ := by
  intro n
  induction n with
  | zero => intro x0 x1 x2 σ hm; unfold L_X7_revokes_2 at hm; cases hm
  | succ n ih =>
    intro x0 x1 x2 σ hm
    unfold L_X7_revokes_2 at hm
    obtain ⟨rc2, hrc⟩ : ∃ z, z = L_X7_revokes_2 b0 fu  n := ⟨_, rfl⟩
    replace hm := ltb_e hm hrc
    rw [← hrc] at ih
    have hrc2 := ih
    clear ih hrc
    refine zx_iload_n C dX7_revokes_2 2 rfl ?_
    refine zx_aload_n C dX7_revokes_3 0 rfl ?_
    obtain ⟨k1, i2, hm⟩ := ckO_e hm
    obtain ⟨a3, h4, hm⟩ := osm_e hm
    refine zx_get (j := 6) C tC_7 k1 i2 ⟨by decide, Or.inl W_4_33⟩ dX7_revokes_4 (.ref a3) (rf_s h4) ?_
    obtain ⟨n7, k5, i6, hm⟩ := ckR_e hm
    refine zx_alen C k5 (by decide) i6 dX7_revokes_7 ?_
    refine zx_icmp_ge C 29 dX7_revokes_8 (by decide) (fun c8 => ?_) (fun c8 => ?_)
    · replace hm := ip_e hm c8
      refine zx_iconst (v := 0) C dX7_revokes_29 (by decide) ?_
      obtain ⟨rfl, rfl⟩ := ret_e hm
      exact zx_zret C rfl (by decide) rfl rfl dX7_revokes_30
    · replace hm := in_e hm c8
      refine zx_aload_n C dX7_revokes_11 0 rfl ?_
      obtain ⟨a9, h10, hm⟩ := osm_e hm
      refine zx_get (j := 6) C tC_7 k1 i2 ⟨by decide, Or.inl W_4_33⟩ dX7_revokes_12 (.ref a9) (rf_s h10) ?_
      refine zx_iload_n C dX7_revokes_15 2 rfl ?_
      obtain ⟨n13, k11, i12, hm⟩ := ckR_e hm
      obtain ⟨h14, hm⟩ := ckI_e hm
      refine zx_iald C k11 i12 h14 dX7_revokes_16 ?_
      refine zx_iload_n C dX7_revokes_17 1 rfl ?_
      refine zx_icmp_ne C 23 dX7_revokes_18 (by decide) (fun c15 => ?_) (fun c15 => ?_)
      · replace hm := in_e hm c15
        obtain ⟨y16, hy16⟩ : ∃ z : Int32, z = (x2) + Int32.ofInt 1 := ⟨_, rfl⟩
        replace hm := ltb_e hm hy16
        refine zx_iinc C [(2, .int (y16)), (0, .ref (x0)), (1, .int (x1))] dX7_revokes_23 2 rfl hy16.symm (by decide) rfl ?_
        refine zx_goto C 2 dX7_revokes_26 (by decide) ?_
        exact zx_lv [1, 2, 0] [(0, .ref (x0)), (1, .int (x1)), (2, .int (y16))] rfl (hrc2 _ _ _ _ hm)
      · replace hm := ip_e hm c15
        refine zx_iconst (v := 1) C dX7_revokes_21 (by decide) ?_
        obtain ⟨rfl, rfl⟩ := ret_e hm
        exact zx_zret C rfl (by decide) rfl rfl dX7_revokes_22
set_option maxRecDepth 100000 in
set_option maxHeartbeats 1000000 in
theorem c_X7_revokes {l : Launch} {D : va_G} {aC : Nat → ClassId} {b0 fu : Nat} {a0 : Nat} {p0 : Int32} {σ τ : tM} {v : Int32} (hm : m_X7_revokes b0 fu a0 p0 σ = some (v, τ)) : tMt l D aC b0 yX7_revokes (Cond.code yX7_revokes cX7_revokes 3 (some .boolean)) 0 0 [.ref (a0), .int (p0)] σ (.inl (some (.int v))) τ := by
  unfold m_X7_revokes at hm
  obtain ⟨hg, hm⟩ := grw_e hm
  refine tMt_of (n := 0) rfl (Nat.le_of_ble_eq_true rfl) hg ?_
  intro p e s m below meth c C htab hin
  refine zx_lv [0, 1] [(0, .ref (a0)), (1, .int (p0))] rfl ?_
  refine zx_iconst (v := 0) C dX7_revokes_0 (by decide) ?_
  refine zx_istore_n C [(2, .int (0)), (0, .ref (a0)), (1, .int (p0))] dX7_revokes_1 rfl (by decide) rfl ?_
  exact zx_lv [1, 2, 0] [(0, .ref (a0)), (1, .int (p0)), (2, .int (0))] rfl (l_X7_revokes_2 C htab hin  _ _ _ _ _ hm)
abbrev cX8_init : ByteArray := prog_10_method_1_code
def yX8_init : MethodName := ⟨"SyncTree$Tree", "<init>", "(LSyncTree$Space;)V"⟩
theorem Y_X8_init : tY yX8_init cX8_init 2 none 1 := ⟨W_1_161, W_1_4, ⟨by decide +kernel, by decide +kernel⟩, by decide +kernel⟩
theorem dX8_init_0 : decode cX8_init 0 = .ok (.aload_n 0, 1) := by decide +kernel
theorem dX8_init_1 : decode cX8_init 1 = .ok (.invokespecial 5, 3) := by decide +kernel
theorem dX8_init_4 : decode cX8_init 4 = .ok (.aload_n 0, 1) := by decide +kernel
theorem dX8_init_5 : decode cX8_init 5 = .ok (.bipush 64, 2) := by decide +kernel
theorem dX8_init_7 : decode cX8_init 7 = .ok (.newarray .byte, 2) := by decide +kernel
theorem dX8_init_9 : decode cX8_init 9 = .ok (.putfield 11, 3) := by decide +kernel
theorem dX8_init_12 : decode cX8_init 12 = .ok (.aload_n 0, 1) := by decide +kernel
theorem dX8_init_13 : decode cX8_init 13 = .ok (.aload_n 1, 1) := by decide +kernel
theorem dX8_init_14 : decode cX8_init 14 = .ok (.putfield 15, 3) := by decide +kernel
theorem dX8_init_17 : decode cX8_init 17 = .ok (.aload_n 0, 1) := by decide +kernel
theorem dX8_init_18 : decode cX8_init 18 = .ok (.aload_n 1, 1) := by decide +kernel
theorem dX8_init_19 : decode cX8_init 19 = .ok (.getfield 19, 3) := by decide +kernel
theorem dX8_init_22 : decode cX8_init 22 = .ok (.putfield 25, 3) := by decide +kernel
theorem dX8_init_25 : decode cX8_init 25 = .ok (.return_, 1) := by decide +kernel
def m_X8_init (b0 fu : Nat) (a0 : Nat) (p0 : Nat) (σ : tM) : Option ((Unit) × tM) := grw σ (ltb (sN (σ) (b0 + tn (σ)) (.inr (1, ((64 : Int32)).toNatClampNeg)) (((64 : Int32)).toNatClampNeg)) (fun ρ1 => ckO b0 (ρ1) (a0) 8 (ckO b0 (sA (sA (ρ1) (a0) 2 (some (b0 + tn (σ)))) (a0) 0 (some (p0))) (p0) 5 (osm (tA (sA (sA (ρ1) (a0) 2 (some (b0 + tn (σ)))) (a0) 0 (some (p0))) (p0) 0) (fun a6 => some ((), sA (sA (sA (ρ1) (a0) 2 (some (b0 + tn (σ)))) (a0) 0 (some (p0))) (a0) 1 (some (a6))))))))
set_option maxRecDepth 100000 in
set_option maxHeartbeats 1000000 in
theorem c_X8_init {l : Launch} {D : va_G} {aC : Nat → ClassId} {b0 fu : Nat} {a0 : Nat} {p0 : Nat} {σ τ : tM} {v : Unit} (hm : m_X8_init b0 fu a0 p0 σ = some (v, τ)) : tMt l D aC b0 yX8_init (Cond.code yX8_init cX8_init 2 none) 1 20 [.ref (a0), .ref (p0)] σ (.inl none) τ := by
  unfold m_X8_init at hm
  obtain ⟨hg, hm⟩ := grw_e hm
  refine tMt_of (n := 0) rfl (Nat.le_of_ble_eq_true rfl) hg ?_
  intro p e s m below meth c C htab hin
  refine zx_lv [0, 1] [(0, .ref (a0)), (1, .ref (p0))] rfl ?_
  refine zx_aload_n C dX8_init_0 0 rfl ?_
  refine zx_obj C W_1_162 W_1_26 W_1_27 (by decide) (by decide) (Nat.le_of_ble_eq_true rfl) dX8_init_1 ?_
  refine zx_aload_n C dX8_init_4 0 rfl ?_
  refine zx_bipush (v := 64) C dX8_init_5 (by decide) ?_
  refine zx_newB C W_1_156 (by decide) (by decide) dX8_init_7 ?_
  refine zx_mem (fun ρ1 hρ1 => ?_)
  replace hm := ltb_e hm hρ1
  obtain ⟨k2, i3, hm⟩ := ckO_e hm
  refine zx_putF (j := 2) (ρ := sA (ρ1) (a0) 2 (some (b0 + tn (σ)))) C hin tC_8 k2 i3 (by decide) W_1_165 rfl rfl rfl rfl (sA_ok (fun _ => rfl)) dX8_init_9 ?_
  refine zx_aload_n C dX8_init_12 0 rfl ?_
  refine zx_aload_n C dX8_init_13 1 rfl ?_
  refine zx_putF (j := 0) (ρ := sA (sA (ρ1) (a0) 2 (some (b0 + tn (σ)))) (a0) 0 (some (p0))) C hin tC_8 k2 i3 (by decide) W_1_163 rfl rfl rfl rfl (sA_ok (fun _ => rfl)) dX8_init_14 ?_
  refine zx_aload_n C dX8_init_17 0 rfl ?_
  refine zx_aload_n C dX8_init_18 1 rfl ?_
  obtain ⟨k4, i5, hm⟩ := ckO_e hm
  obtain ⟨a6, h7, hm⟩ := osm_e hm
  refine zx_get (j := 0) C tC_5 k4 i5 ⟨by decide, Or.inr ⟨_, W_1_95⟩⟩ dX8_init_19 (.ref a6) (rf_s h7) ?_
  refine zx_putF (j := 1) (ρ := sA (sA (sA (ρ1) (a0) 2 (some (b0 + tn (σ)))) (a0) 0 (some (p0))) (a0) 1 (some (a6))) C hin tC_8 k2 i3 (by decide) W_1_164 rfl rfl rfl rfl (sA_ok (fun _ => rfl)) dX8_init_22 ?_
  obtain ⟨rfl, rfl⟩ := ret_e hm
  exact zx_vret C rfl rfl rfl dX8_init_25
abbrev cX8_cellOf : ByteArray := prog_10_method_2_code
def yX8_cellOf : MethodName := ⟨"SyncTree$Tree", "cellOf", "(J)I"⟩
theorem Y_X8_cellOf : tY yX8_cellOf cX8_cellOf 2 (some .int) 1 := ⟨W_4_119, W_1_4, ⟨by decide +kernel, by decide +kernel⟩, by decide +kernel⟩
theorem dX8_cellOf_0 : decode cX8_cellOf 0 = .ok (.lload_n 0, 1) := by decide +kernel
theorem dX8_cellOf_1 : decode cX8_cellOf 1 = .ok (.l2i, 1) := by decide +kernel
theorem dX8_cellOf_2 : decode cX8_cellOf 2 = .ok (.sipush 2047, 3) := by decide +kernel
theorem dX8_cellOf_5 : decode cX8_cellOf 5 = .ok (.iand, 1) := by decide +kernel
theorem dX8_cellOf_6 : decode cX8_cellOf 6 = .ok (.ireturn, 1) := by decide +kernel
def m_X8_cellOf (b0 fu : Nat) (p0 : Int64) (σ : tM) : Option ((Int32) × tM) := grw σ (some (((p0).toInt32) &&& (2047), σ))
set_option maxRecDepth 100000 in
set_option maxHeartbeats 1000000 in
theorem c_X8_cellOf {l : Launch} {D : va_G} {aC : Nat → ClassId} {b0 fu : Nat} {p0 : Int64} {σ τ : tM} {v : Int32} (hm : m_X8_cellOf b0 fu p0 σ = some (v, τ)) : tMt l D aC b0 yX8_cellOf (Cond.code yX8_cellOf cX8_cellOf 2 (some .int)) 0 0 [.long (p0)] σ (.inl (some (.int v))) τ := by
  unfold m_X8_cellOf at hm
  obtain ⟨hg, hm⟩ := grw_e hm
  refine tMt_of (n := 0) rfl (Nat.le_of_ble_eq_true rfl) hg ?_
  intro p e s m below meth c C htab hin
  refine zx_lv [0] [(0, .long (p0))] rfl ?_
  refine zx_lload_n C dX8_cellOf_0 0 rfl ?_
  refine zx_l2i C dX8_cellOf_1 ?_
  refine zx_sipush (v := 2047) C dX8_cellOf_2 (by decide) ?_
  refine zx_iand C dX8_cellOf_5 ?_
  obtain ⟨rfl, rfl⟩ := ret_e hm
  exact zx_iret C rfl rfl rfl dX8_cellOf_6
abbrev cX8_birthOf : ByteArray := prog_10_method_3_code
def yX8_birthOf : MethodName := ⟨"SyncTree$Tree", "birthOf", "(J)I"⟩
theorem Y_X8_birthOf : tY yX8_birthOf cX8_birthOf 2 (some .int) 1 := ⟨W_6_173, W_1_4, ⟨by decide +kernel, by decide +kernel⟩, by decide +kernel⟩
theorem dX8_birthOf_0 : decode cX8_birthOf 0 = .ok (.lload_n 0, 1) := by decide +kernel
theorem dX8_birthOf_1 : decode cX8_birthOf 1 = .ok (.bipush 16, 2) := by decide +kernel
theorem dX8_birthOf_3 : decode cX8_birthOf 3 = .ok (.lushr, 1) := by decide +kernel
theorem dX8_birthOf_4 : decode cX8_birthOf 4 = .ok (.l2i, 1) := by decide +kernel
theorem dX8_birthOf_5 : decode cX8_birthOf 5 = .ok (.ireturn, 1) := by decide +kernel
def m_X8_birthOf (b0 fu : Nat) (p0 : Int64) (σ : tM) : Option ((Int32) × tM) := grw σ (some ((((p0).toUInt64 >>> (((16 : Int32)).toInt64.toUInt64 &&& Int64.toUInt64 63)).toInt64).toInt32, σ))
set_option maxRecDepth 100000 in
set_option maxHeartbeats 1000000 in
theorem c_X8_birthOf {l : Launch} {D : va_G} {aC : Nat → ClassId} {b0 fu : Nat} {p0 : Int64} {σ τ : tM} {v : Int32} (hm : m_X8_birthOf b0 fu p0 σ = some (v, τ)) : tMt l D aC b0 yX8_birthOf (Cond.code yX8_birthOf cX8_birthOf 2 (some .int)) 0 0 [.long (p0)] σ (.inl (some (.int v))) τ := by
  unfold m_X8_birthOf at hm
  obtain ⟨hg, hm⟩ := grw_e hm
  refine tMt_of (n := 0) rfl (Nat.le_of_ble_eq_true rfl) hg ?_
  intro p e s m below meth c C htab hin
  refine zx_lv [0] [(0, .long (p0))] rfl ?_
  refine zx_lload_n C dX8_birthOf_0 0 rfl ?_
  refine zx_bipush (v := 16) C dX8_birthOf_1 (by decide) ?_
  refine zx_lushr C dX8_birthOf_3 ?_
  refine zx_l2i C dX8_birthOf_4 ?_
  obtain ⟨rfl, rfl⟩ := ret_e hm
  exact zx_iret C rfl rfl rfl dX8_birthOf_5
abbrev cX8_nodeWord : ByteArray := prog_10_method_4_code
def yX8_nodeWord : MethodName := ⟨"SyncTree$Tree", "nodeWord", "(II)J"⟩
theorem Y_X8_nodeWord : tY yX8_nodeWord cX8_nodeWord 3 (some .long) 2 := ⟨W_3_86, W_1_4, ⟨by decide +kernel, by decide +kernel⟩, by decide +kernel⟩
theorem dX8_nodeWord_0 : decode cX8_nodeWord 0 = .ok (.iload_n 1, 1) := by decide +kernel
theorem dX8_nodeWord_1 : decode cX8_nodeWord 1 = .ok (.ifCond .lt 19, 3) := by decide +kernel
theorem dX8_nodeWord_4 : decode cX8_nodeWord 4 = .ok (.iload_n 1, 1) := by decide +kernel
theorem dX8_nodeWord_5 : decode cX8_nodeWord 5 = .ok (.bipush 64, 2) := by decide +kernel
theorem dX8_nodeWord_7 : decode cX8_nodeWord 7 = .ok (.if_icmp .ge 13, 3) := by decide +kernel
theorem dX8_nodeWord_10 : decode cX8_nodeWord 10 = .ok (.iload_n 2, 1) := by decide +kernel
theorem dX8_nodeWord_11 : decode cX8_nodeWord 11 = .ok (.ifCond .lt 9, 3) := by decide +kernel
theorem dX8_nodeWord_14 : decode cX8_nodeWord 14 = .ok (.iload_n 2, 1) := by decide +kernel
theorem dX8_nodeWord_15 : decode cX8_nodeWord 15 = .ok (.bipush 16, 2) := by decide +kernel
theorem dX8_nodeWord_17 : decode cX8_nodeWord 17 = .ok (.if_icmp .lt 5, 3) := by decide +kernel
theorem dX8_nodeWord_20 : decode cX8_nodeWord 20 = .ok (.lconst 0, 1) := by decide +kernel
theorem dX8_nodeWord_21 : decode cX8_nodeWord 21 = .ok (.lreturn, 1) := by decide +kernel
theorem dX8_nodeWord_22 : decode cX8_nodeWord 22 = .ok (.aload_n 0, 1) := by decide +kernel
theorem dX8_nodeWord_23 : decode cX8_nodeWord 23 = .ok (.getfield 25, 3) := by decide +kernel
theorem dX8_nodeWord_26 : decode cX8_nodeWord 26 = .ok (.bipush 64, 2) := by decide +kernel
theorem dX8_nodeWord_28 : decode cX8_nodeWord 28 = .ok (.iload_n 1, 1) := by decide +kernel
theorem dX8_nodeWord_29 : decode cX8_nodeWord 29 = .ok (.bipush 16, 2) := by decide +kernel
theorem dX8_nodeWord_31 : decode cX8_nodeWord 31 = .ok (.imul, 1) := by decide +kernel
theorem dX8_nodeWord_32 : decode cX8_nodeWord 32 = .ok (.iadd, 1) := by decide +kernel
theorem dX8_nodeWord_33 : decode cX8_nodeWord 33 = .ok (.iload_n 2, 1) := by decide +kernel
theorem dX8_nodeWord_34 : decode cX8_nodeWord 34 = .ok (.iadd, 1) := by decide +kernel
theorem dX8_nodeWord_35 : decode cX8_nodeWord 35 = .ok (.laload, 1) := by decide +kernel
theorem dX8_nodeWord_36 : decode cX8_nodeWord 36 = .ok (.lreturn, 1) := by decide +kernel
def J_X8_nodeWord_20 (b0 fu : Nat)   (σ : tM) : Option ((Int64) × tM) := some (0, σ)
def m_X8_nodeWord (b0 fu : Nat) (a0 : Nat) (p0 : Int32) (p1 : Int32) (σ : tM) : Option ((Int64) × tM) := grw σ (if (p0) < (0) then J_X8_nodeWord_20 b0 fu    (σ) else if (64) ≤ (p0) then J_X8_nodeWord_20 b0 fu    (σ) else if (p1) < (0) then J_X8_nodeWord_20 b0 fu    (σ) else if (p1) < (16) then ckO b0 (σ) (a0) 8 (osm (tA (σ) (a0) 1) (fun a7 => ckR b0 (σ) (a7) 3 (fun n11 => ckI (((64) + ((p0) * (16))) + (p1)) (n11) (some (tL (σ) (a7) ((((64) + ((p0) * (16))) + (p1)).toNatClampNeg), σ))))) else J_X8_nodeWord_20 b0 fu    (σ))
set_option maxRecDepth 100000 in
set_option maxHeartbeats 1000000 in
theorem j_X8_nodeWord_20 {p : Program} {l : Launch} {e : Env} {s : State} {m : MethodId} {args : Array Value} {below : List Frame} {meth : Method} {c : Code} {D : va_G} {aC : Nat → ClassId} {b0 fu : Nat} {σ0 τ : tM} {v : Int64}  (C : tCx p s m args meth c yX8_nodeWord.cls cX8_nodeWord 3 (some .long) D aC b0 σ0) (htab : ∀ x ∈ c.exceptionTable.toList, False) (hin : meth.name = yX8_nodeWord.name)   {σ : tM} (hm : J_X8_nodeWord_20 b0 fu   σ = some (v, τ)) : tX p l e s m args below meth c 3 0 0 D aC b0 σ0 (.inl (some (.long v))) τ 20 [] [] σ := by
  unfold J_X8_nodeWord_20 at hm
  refine zx_lconst (v := 0) C dX8_nodeWord_20 (by decide) ?_
  obtain ⟨rfl, rfl⟩ := ret_e hm
  exact zx_lret C rfl rfl rfl dX8_nodeWord_21
set_option maxRecDepth 100000 in
set_option maxHeartbeats 1000000 in
theorem c_X8_nodeWord {l : Launch} {D : va_G} {aC : Nat → ClassId} {b0 fu : Nat} {a0 : Nat} {p0 : Int32} {p1 : Int32} {σ τ : tM} {v : Int64} (hm : m_X8_nodeWord b0 fu a0 p0 p1 σ = some (v, τ)) : tMt l D aC b0 yX8_nodeWord (Cond.code yX8_nodeWord cX8_nodeWord 3 (some .long)) 0 0 [.ref (a0), .int (p0), .int (p1)] σ (.inl (some (.long v))) τ := by
  unfold m_X8_nodeWord at hm
  obtain ⟨hg, hm⟩ := grw_e hm
  refine tMt_of (n := 0) rfl (Nat.le_of_ble_eq_true rfl) hg ?_
  intro p e s m below meth c C htab hin
  refine zx_lv [0, 1, 2] [(0, .ref (a0)), (1, .int (p0)), (2, .int (p1))] rfl ?_
  refine zx_iload_n C dX8_nodeWord_0 1 rfl ?_
  refine zx_if_lt C 20 dX8_nodeWord_1 (by decide) (fun c1 => ?_) (fun c1 => ?_)
  · replace hm := ip_e hm c1
    exact zx_lv [] [] rfl (j_X8_nodeWord_20 C htab hin    hm)
  · replace hm := in_e hm c1
    refine zx_iload_n C dX8_nodeWord_4 1 rfl ?_
    refine zx_bipush (v := 64) C dX8_nodeWord_5 (by decide) ?_
    refine zx_icmp_ge C 20 dX8_nodeWord_7 (by decide) (fun c2 => ?_) (fun c2 => ?_)
    · replace hm := ip_e hm c2
      exact zx_lv [] [] rfl (j_X8_nodeWord_20 C htab hin    hm)
    · replace hm := in_e hm c2
      refine zx_iload_n C dX8_nodeWord_10 2 rfl ?_
      refine zx_if_lt C 20 dX8_nodeWord_11 (by decide) (fun c3 => ?_) (fun c3 => ?_)
      · replace hm := ip_e hm c3
        exact zx_lv [] [] rfl (j_X8_nodeWord_20 C htab hin    hm)
      · replace hm := in_e hm c3
        refine zx_iload_n C dX8_nodeWord_14 2 rfl ?_
        refine zx_bipush (v := 16) C dX8_nodeWord_15 (by decide) ?_
        refine zx_icmp_lt C 22 dX8_nodeWord_17 (by decide) (fun c4 => ?_) (fun c4 => ?_)
        · replace hm := ip_e hm c4
          refine zx_aload_n C dX8_nodeWord_22 0 rfl ?_
          obtain ⟨k5, i6, hm⟩ := ckO_e hm
          obtain ⟨a7, h8, hm⟩ := osm_e hm
          refine zx_get (j := 1) C tC_8 k5 i6 ⟨by decide, Or.inl W_1_164⟩ dX8_nodeWord_23 (.ref a7) (rf_s h8) ?_
          refine zx_bipush (v := 64) C dX8_nodeWord_26 (by decide) ?_
          refine zx_iload_n C dX8_nodeWord_28 1 rfl ?_
          refine zx_bipush (v := 16) C dX8_nodeWord_29 (by decide) ?_
          refine zx_imul C dX8_nodeWord_31 ?_
          refine zx_iadd C dX8_nodeWord_32 ?_
          refine zx_iload_n C dX8_nodeWord_33 2 rfl ?_
          refine zx_iadd C dX8_nodeWord_34 ?_
          obtain ⟨n11, k9, i10, hm⟩ := ckR_e hm
          obtain ⟨h12, hm⟩ := ckI_e hm
          refine zx_lald C k9 i10 h12 dX8_nodeWord_35 ?_
          obtain ⟨rfl, rfl⟩ := ret_e hm
          exact zx_lret C rfl rfl rfl dX8_nodeWord_36
        · replace hm := in_e hm c4
          exact zx_lv [] [] rfl (j_X8_nodeWord_20 C htab hin    hm)
abbrev cX8_setNodeWord : ByteArray := prog_10_method_5_code
def yX8_setNodeWord : MethodName := ⟨"SyncTree$Tree", "setNodeWord", "(IIJ)V"⟩
theorem Y_X8_setNodeWord : tY yX8_setNodeWord cX8_setNodeWord 5 none 3 := ⟨W_2_155, W_1_4, ⟨by decide +kernel, by decide +kernel⟩, by decide +kernel⟩
theorem dX8_setNodeWord_0 : decode cX8_setNodeWord 0 = .ok (.iload_n 1, 1) := by decide +kernel
theorem dX8_setNodeWord_1 : decode cX8_setNodeWord 1 = .ok (.ifCond .lt 46, 3) := by decide +kernel
theorem dX8_setNodeWord_4 : decode cX8_setNodeWord 4 = .ok (.iload_n 1, 1) := by decide +kernel
theorem dX8_setNodeWord_5 : decode cX8_setNodeWord 5 = .ok (.bipush 64, 2) := by decide +kernel
theorem dX8_setNodeWord_7 : decode cX8_setNodeWord 7 = .ok (.if_icmp .ge 40, 3) := by decide +kernel
theorem dX8_setNodeWord_10 : decode cX8_setNodeWord 10 = .ok (.iload_n 2, 1) := by decide +kernel
theorem dX8_setNodeWord_11 : decode cX8_setNodeWord 11 = .ok (.ifCond .lt 36, 3) := by decide +kernel
theorem dX8_setNodeWord_14 : decode cX8_setNodeWord 14 = .ok (.iload_n 2, 1) := by decide +kernel
theorem dX8_setNodeWord_15 : decode cX8_setNodeWord 15 = .ok (.bipush 16, 2) := by decide +kernel
theorem dX8_setNodeWord_17 : decode cX8_setNodeWord 17 = .ok (.if_icmp .ge 30, 3) := by decide +kernel
theorem dX8_setNodeWord_20 : decode cX8_setNodeWord 20 = .ok (.aload_n 0, 1) := by decide +kernel
theorem dX8_setNodeWord_21 : decode cX8_setNodeWord 21 = .ok (.getfield 25, 3) := by decide +kernel
theorem dX8_setNodeWord_24 : decode cX8_setNodeWord 24 = .ok (.bipush 64, 2) := by decide +kernel
theorem dX8_setNodeWord_26 : decode cX8_setNodeWord 26 = .ok (.iload_n 1, 1) := by decide +kernel
theorem dX8_setNodeWord_27 : decode cX8_setNodeWord 27 = .ok (.bipush 16, 2) := by decide +kernel
theorem dX8_setNodeWord_29 : decode cX8_setNodeWord 29 = .ok (.imul, 1) := by decide +kernel
theorem dX8_setNodeWord_30 : decode cX8_setNodeWord 30 = .ok (.iadd, 1) := by decide +kernel
theorem dX8_setNodeWord_31 : decode cX8_setNodeWord 31 = .ok (.iload_n 2, 1) := by decide +kernel
theorem dX8_setNodeWord_32 : decode cX8_setNodeWord 32 = .ok (.iadd, 1) := by decide +kernel
theorem dX8_setNodeWord_33 : decode cX8_setNodeWord 33 = .ok (.lload_n 3, 1) := by decide +kernel
theorem dX8_setNodeWord_34 : decode cX8_setNodeWord 34 = .ok (.lastore, 1) := by decide +kernel
theorem dX8_setNodeWord_35 : decode cX8_setNodeWord 35 = .ok (.aload_n 0, 1) := by decide +kernel
theorem dX8_setNodeWord_36 : decode cX8_setNodeWord 36 = .ok (.getfield 15, 3) := by decide +kernel
theorem dX8_setNodeWord_39 : decode cX8_setNodeWord 39 = .ok (.iconst 2, 1) := by decide +kernel
theorem dX8_setNodeWord_40 : decode cX8_setNodeWord 40 = .ok (.iload_n 1, 1) := by decide +kernel
theorem dX8_setNodeWord_41 : decode cX8_setNodeWord 41 = .ok (.iconst 2, 1) := by decide +kernel
theorem dX8_setNodeWord_42 : decode cX8_setNodeWord 42 = .ok (.idiv, 1) := by decide +kernel
theorem dX8_setNodeWord_43 : decode cX8_setNodeWord 43 = .ok (.iadd, 1) := by decide +kernel
theorem dX8_setNodeWord_44 : decode cX8_setNodeWord 44 = .ok (.invokevirtual 26, 3) := by decide +kernel
theorem dX8_setNodeWord_47 : decode cX8_setNodeWord 47 = .ok (.return_, 1) := by decide +kernel
def J_X8_setNodeWord_47 (b0 fu : Nat)   (σ : tM) : Option ((Unit) × tM) := some ((), σ)
def m_X8_setNodeWord (b0 fu : Nat) (a0 : Nat) (p0 : Int32) (p1 : Int32) (p2 : Int64) (σ : tM) : Option ((Unit) × tM) := grw σ (if (p0) < (0) then J_X8_setNodeWord_47 b0 fu    (σ) else if (64) ≤ (p0) then J_X8_setNodeWord_47 b0 fu    (σ) else if (p1) < (0) then J_X8_setNodeWord_47 b0 fu    (σ) else if (16) ≤ (p1) then J_X8_setNodeWord_47 b0 fu    (σ) else ckO b0 (σ) (a0) 8 (osm (tA (σ) (a0) 1) (fun a7 => ckR b0 (σ) (a7) 3 (fun n11 => ckI (((64) + ((p0) * (16))) + (p1)) (n11) (osm (tA (sL (σ) (a7) ((((64) + ((p0) * (16))) + (p1)).toNatClampNeg) (p2)) (a0) 0) (fun a13 => ckO b0 (sL (σ) (a7) ((((64) + ((p0) * (16))) + (p1)).toNatClampNeg) (p2)) (a13) 5 (cll (m_X5_touch b0 fu (a13) ((2) + ((p0) / (2))) (sL (σ) (a7) ((((64) + ((p0) * (16))) + (p1)).toNatClampNeg) (p2))) (fun v17 ρ18 => J_X8_setNodeWord_47 b0 fu    (ρ18)))))))))
set_option maxRecDepth 100000 in
set_option maxHeartbeats 1000000 in
theorem j_X8_setNodeWord_47 {p : Program} {l : Launch} {e : Env} {s : State} {m : MethodId} {args : Array Value} {below : List Frame} {meth : Method} {c : Code} {D : va_G} {aC : Nat → ClassId} {b0 fu : Nat} {σ0 τ : tM} {v : Unit}  (C : tCx p s m args meth c yX8_setNodeWord.cls cX8_setNodeWord 5 none D aC b0 σ0) (htab : ∀ x ∈ c.exceptionTable.toList, False) (hin : meth.name = yX8_setNodeWord.name)   {σ : tM} (hm : J_X8_setNodeWord_47 b0 fu   σ = some (v, τ)) : tX p l e s m args below meth c 5 1 21 D aC b0 σ0 (.inl none) τ 47 [] [] σ := by
  unfold J_X8_setNodeWord_47 at hm
  obtain ⟨rfl, rfl⟩ := ret_e hm
  exact zx_vret C rfl rfl rfl dX8_setNodeWord_47
set_option maxRecDepth 100000 in
set_option maxHeartbeats 1000000 in
theorem c_X8_setNodeWord {l : Launch} {D : va_G} {aC : Nat → ClassId} {b0 fu : Nat} {a0 : Nat} {p0 : Int32} {p1 : Int32} {p2 : Int64} {σ τ : tM} {v : Unit} (hm : m_X8_setNodeWord b0 fu a0 p0 p1 p2 σ = some (v, τ)) : tMt l D aC b0 yX8_setNodeWord (Cond.code yX8_setNodeWord cX8_setNodeWord 5 none) 1 21 [.ref (a0), .int (p0), .int (p1), .long (p2)] σ (.inl none) τ := by
  unfold m_X8_setNodeWord at hm
  obtain ⟨hg, hm⟩ := grw_e hm
  refine tMt_of (n := 0) rfl (Nat.le_of_ble_eq_true rfl) hg ?_
  intro p e s m below meth c C htab hin
  refine zx_lv [0, 1, 2, 3] [(0, .ref (a0)), (1, .int (p0)), (2, .int (p1)), (3, .long (p2))] rfl ?_
  refine zx_iload_n C dX8_setNodeWord_0 1 rfl ?_
  refine zx_if_lt C 47 dX8_setNodeWord_1 (by decide) (fun c1 => ?_) (fun c1 => ?_)
  · replace hm := ip_e hm c1
    exact zx_lv [] [] rfl (j_X8_setNodeWord_47 C htab hin    hm)
  · replace hm := in_e hm c1
    refine zx_iload_n C dX8_setNodeWord_4 1 rfl ?_
    refine zx_bipush (v := 64) C dX8_setNodeWord_5 (by decide) ?_
    refine zx_icmp_ge C 47 dX8_setNodeWord_7 (by decide) (fun c2 => ?_) (fun c2 => ?_)
    · replace hm := ip_e hm c2
      exact zx_lv [] [] rfl (j_X8_setNodeWord_47 C htab hin    hm)
    · replace hm := in_e hm c2
      refine zx_iload_n C dX8_setNodeWord_10 2 rfl ?_
      refine zx_if_lt C 47 dX8_setNodeWord_11 (by decide) (fun c3 => ?_) (fun c3 => ?_)
      · replace hm := ip_e hm c3
        exact zx_lv [] [] rfl (j_X8_setNodeWord_47 C htab hin    hm)
      · replace hm := in_e hm c3
        refine zx_iload_n C dX8_setNodeWord_14 2 rfl ?_
        refine zx_bipush (v := 16) C dX8_setNodeWord_15 (by decide) ?_
        refine zx_icmp_ge C 47 dX8_setNodeWord_17 (by decide) (fun c4 => ?_) (fun c4 => ?_)
        · replace hm := ip_e hm c4
          exact zx_lv [] [] rfl (j_X8_setNodeWord_47 C htab hin    hm)
        · replace hm := in_e hm c4
          refine zx_aload_n C dX8_setNodeWord_20 0 rfl ?_
          obtain ⟨k5, i6, hm⟩ := ckO_e hm
          obtain ⟨a7, h8, hm⟩ := osm_e hm
          refine zx_get (j := 1) C tC_8 k5 i6 ⟨by decide, Or.inl W_1_164⟩ dX8_setNodeWord_21 (.ref a7) (rf_s h8) ?_
          refine zx_bipush (v := 64) C dX8_setNodeWord_24 (by decide) ?_
          refine zx_iload_n C dX8_setNodeWord_26 1 rfl ?_
          refine zx_bipush (v := 16) C dX8_setNodeWord_27 (by decide) ?_
          refine zx_imul C dX8_setNodeWord_29 ?_
          refine zx_iadd C dX8_setNodeWord_30 ?_
          refine zx_iload_n C dX8_setNodeWord_31 2 rfl ?_
          refine zx_iadd C dX8_setNodeWord_32 ?_
          refine zx_lload_n C dX8_setNodeWord_33 3 rfl ?_
          obtain ⟨n11, k9, i10, hm⟩ := ckR_e hm
          obtain ⟨h12, hm⟩ := ckI_e hm
          refine zx_last C k9 i10 h12 dX8_setNodeWord_34 ?_
          refine zx_aload_n C dX8_setNodeWord_35 0 rfl ?_
          obtain ⟨a13, h14, hm⟩ := osm_e hm
          refine zx_get (j := 0) C tC_8 k5 i6 ⟨by decide, Or.inl W_1_163⟩ dX8_setNodeWord_36 (.ref a13) (rf_s h14) ?_
          refine zx_iconst (v := 2) C dX8_setNodeWord_39 (by decide) ?_
          refine zx_iload_n C dX8_setNodeWord_40 1 rfl ?_
          refine zx_iconst (v := 2) C dX8_setNodeWord_41 (by decide) ?_
          refine zx_idiv C dX8_setNodeWord_42 (by decide) ?_
          refine zx_iadd C dX8_setNodeWord_43 ?_
          obtain ⟨k15, i16, hm⟩ := ckO_e hm
          obtain ⟨v17, ρ18, h19, hm⟩ := cll_e hm
          refine zx_callV (σ := sL (σ) (a7) ((((64) + ((p0) * (16))) + (p1)).toNatClampNeg) (p2)) C [.int ((2) + ((p0) / (2)))] tC_5 k15 i16 Y_X5_touch W_2_156 W_2_157 W_2_158 (c_X5_touch h19) (by decide) (by decide) rfl (Nat.le_of_ble_eq_true rfl) dX8_setNodeWord_44 rfl ?_
          exact zx_lv [] [] rfl (j_X8_setNodeWord_47 C htab hin    hm)
abbrev cX8_kind : ByteArray := prog_10_method_6_code
def yX8_kind : MethodName := ⟨"SyncTree$Tree", "kind", "(I)I"⟩
theorem Y_X8_kind : tY yX8_kind cX8_kind 2 (some .int) 1 := ⟨W_3_82, W_1_4, ⟨by decide +kernel, by decide +kernel⟩, by decide +kernel⟩
theorem dX8_kind_0 : decode cX8_kind 0 = .ok (.aload_n 0, 1) := by decide +kernel
theorem dX8_kind_1 : decode cX8_kind 1 = .ok (.iload_n 1, 1) := by decide +kernel
theorem dX8_kind_2 : decode cX8_kind 2 = .ok (.iconst 0, 1) := by decide +kernel
theorem dX8_kind_3 : decode cX8_kind 3 = .ok (.invokevirtual 30, 3) := by decide +kernel
theorem dX8_kind_6 : decode cX8_kind 6 = .ok (.ldc2_w 34, 3) := by decide +kernel
theorem dX8_kind_9 : decode cX8_kind 9 = .ok (.land, 1) := by decide +kernel
theorem dX8_kind_10 : decode cX8_kind 10 = .ok (.l2i, 1) := by decide +kernel
theorem dX8_kind_11 : decode cX8_kind 11 = .ok (.ireturn, 1) := by decide +kernel
def m_X8_kind (b0 fu : Nat) (a0 : Nat) (p0 : Int32) (σ : tM) : Option ((Int32) × tM) := grw σ (ckO b0 (σ) (a0) 8 (cll (m_X8_nodeWord b0 fu (a0) (p0) (0) (σ)) (fun v3 ρ4 => some (((v3) &&& (255)).toInt32, ρ4))))
set_option maxRecDepth 100000 in
set_option maxHeartbeats 1000000 in
theorem c_X8_kind {l : Launch} {D : va_G} {aC : Nat → ClassId} {b0 fu : Nat} {a0 : Nat} {p0 : Int32} {σ τ : tM} {v : Int32} (hm : m_X8_kind b0 fu a0 p0 σ = some (v, τ)) : tMt l D aC b0 yX8_kind (Cond.code yX8_kind cX8_kind 2 (some .int)) 1 22 [.ref (a0), .int (p0)] σ (.inl (some (.int v))) τ := by
  unfold m_X8_kind at hm
  obtain ⟨hg, hm⟩ := grw_e hm
  refine tMt_of (n := 0) rfl (Nat.le_of_ble_eq_true rfl) hg ?_
  intro p e s m below meth c C htab hin
  refine zx_lv [0, 1] [(0, .ref (a0)), (1, .int (p0))] rfl ?_
  refine zx_aload_n C dX8_kind_0 0 rfl ?_
  refine zx_iload_n C dX8_kind_1 1 rfl ?_
  refine zx_iconst (v := 0) C dX8_kind_2 (by decide) ?_
  obtain ⟨k1, i2, hm⟩ := ckO_e hm
  obtain ⟨v3, ρ4, h5, hm⟩ := cll_e hm
  refine zx_callV (σ := σ) C [.int (p0), .int (0)] tC_8 k1 i2 Y_X8_nodeWord W_3_83 W_3_84 W_3_85 (c_X8_nodeWord h5) (by decide) (by decide) rfl (Nat.le_of_ble_eq_true rfl) dX8_kind_3 rfl ?_
  refine zx_ldc2 (v := 255) C W_3_87 dX8_kind_6 ?_
  refine zx_land C dX8_kind_9 ?_
  refine zx_l2i C dX8_kind_10 ?_
  obtain ⟨rfl, rfl⟩ := ret_e hm
  exact zx_iret C rfl rfl rfl dX8_kind_11
abbrev cX8_names : ByteArray := prog_10_method_7_code
def yX8_names : MethodName := ⟨"SyncTree$Tree", "names", "(I)I"⟩
theorem Y_X8_names : tY yX8_names cX8_names 2 (some .int) 1 := ⟨W_4_193, W_1_4, ⟨by decide +kernel, by decide +kernel⟩, by decide +kernel⟩
theorem dX8_names_0 : decode cX8_names 0 = .ok (.aload_n 0, 1) := by decide +kernel
theorem dX8_names_1 : decode cX8_names 1 = .ok (.iload_n 1, 1) := by decide +kernel
theorem dX8_names_2 : decode cX8_names 2 = .ok (.iconst 0, 1) := by decide +kernel
theorem dX8_names_3 : decode cX8_names 3 = .ok (.invokevirtual 30, 3) := by decide +kernel
theorem dX8_names_6 : decode cX8_names 6 = .ok (.bipush 8, 2) := by decide +kernel
theorem dX8_names_8 : decode cX8_names 8 = .ok (.lushr, 1) := by decide +kernel
theorem dX8_names_9 : decode cX8_names 9 = .ok (.ldc2_w 34, 3) := by decide +kernel
theorem dX8_names_12 : decode cX8_names 12 = .ok (.land, 1) := by decide +kernel
theorem dX8_names_13 : decode cX8_names 13 = .ok (.l2i, 1) := by decide +kernel
theorem dX8_names_14 : decode cX8_names 14 = .ok (.ireturn, 1) := by decide +kernel
def m_X8_names (b0 fu : Nat) (a0 : Nat) (p0 : Int32) (σ : tM) : Option ((Int32) × tM) := grw σ (ckO b0 (σ) (a0) 8 (cll (m_X8_nodeWord b0 fu (a0) (p0) (0) (σ)) (fun v3 ρ4 => some (((((v3).toUInt64 >>> (((8 : Int32)).toInt64.toUInt64 &&& Int64.toUInt64 63)).toInt64) &&& (255)).toInt32, ρ4))))
set_option maxRecDepth 100000 in
set_option maxHeartbeats 1000000 in
theorem c_X8_names {l : Launch} {D : va_G} {aC : Nat → ClassId} {b0 fu : Nat} {a0 : Nat} {p0 : Int32} {σ τ : tM} {v : Int32} (hm : m_X8_names b0 fu a0 p0 σ = some (v, τ)) : tMt l D aC b0 yX8_names (Cond.code yX8_names cX8_names 2 (some .int)) 1 22 [.ref (a0), .int (p0)] σ (.inl (some (.int v))) τ := by
  unfold m_X8_names at hm
  obtain ⟨hg, hm⟩ := grw_e hm
  refine tMt_of (n := 0) rfl (Nat.le_of_ble_eq_true rfl) hg ?_
  intro p e s m below meth c C htab hin
  refine zx_lv [0, 1] [(0, .ref (a0)), (1, .int (p0))] rfl ?_
  refine zx_aload_n C dX8_names_0 0 rfl ?_
  refine zx_iload_n C dX8_names_1 1 rfl ?_
  refine zx_iconst (v := 0) C dX8_names_2 (by decide) ?_
  obtain ⟨k1, i2, hm⟩ := ckO_e hm
  obtain ⟨v3, ρ4, h5, hm⟩ := cll_e hm
  refine zx_callV (σ := σ) C [.int (p0), .int (0)] tC_8 k1 i2 Y_X8_nodeWord W_3_83 W_3_84 W_3_85 (c_X8_nodeWord h5) (by decide) (by decide) rfl (Nat.le_of_ble_eq_true rfl) dX8_names_3 rfl ?_
  refine zx_bipush (v := 8) C dX8_names_6 (by decide) ?_
  refine zx_lushr C dX8_names_8 ?_
  refine zx_ldc2 (v := 255) C W_3_87 dX8_names_9 ?_
  refine zx_land C dX8_names_12 ?_
  refine zx_l2i C dX8_names_13 ?_
  obtain ⟨rfl, rfl⟩ := ret_e hm
  exact zx_iret C rfl rfl rfl dX8_names_14
abbrev cX8_parent : ByteArray := prog_10_method_8_code
def yX8_parent : MethodName := ⟨"SyncTree$Tree", "parent", "(I)I"⟩
theorem Y_X8_parent : tY yX8_parent cX8_parent 2 (some .int) 1 := ⟨W_4_99, W_1_4, ⟨by decide +kernel, by decide +kernel⟩, by decide +kernel⟩
theorem dX8_parent_0 : decode cX8_parent 0 = .ok (.aload_n 0, 1) := by decide +kernel
theorem dX8_parent_1 : decode cX8_parent 1 = .ok (.iload_n 1, 1) := by decide +kernel
theorem dX8_parent_2 : decode cX8_parent 2 = .ok (.iconst 0, 1) := by decide +kernel
theorem dX8_parent_3 : decode cX8_parent 3 = .ok (.invokevirtual 30, 3) := by decide +kernel
theorem dX8_parent_6 : decode cX8_parent 6 = .ok (.bipush 16, 2) := by decide +kernel
theorem dX8_parent_8 : decode cX8_parent 8 = .ok (.lushr, 1) := by decide +kernel
theorem dX8_parent_9 : decode cX8_parent 9 = .ok (.ldc2_w 34, 3) := by decide +kernel
theorem dX8_parent_12 : decode cX8_parent 12 = .ok (.land, 1) := by decide +kernel
theorem dX8_parent_13 : decode cX8_parent 13 = .ok (.l2i, 1) := by decide +kernel
theorem dX8_parent_14 : decode cX8_parent 14 = .ok (.ireturn, 1) := by decide +kernel
def m_X8_parent (b0 fu : Nat) (a0 : Nat) (p0 : Int32) (σ : tM) : Option ((Int32) × tM) := grw σ (ckO b0 (σ) (a0) 8 (cll (m_X8_nodeWord b0 fu (a0) (p0) (0) (σ)) (fun v3 ρ4 => some (((((v3).toUInt64 >>> (((16 : Int32)).toInt64.toUInt64 &&& Int64.toUInt64 63)).toInt64) &&& (255)).toInt32, ρ4))))
set_option maxRecDepth 100000 in
set_option maxHeartbeats 1000000 in
theorem c_X8_parent {l : Launch} {D : va_G} {aC : Nat → ClassId} {b0 fu : Nat} {a0 : Nat} {p0 : Int32} {σ τ : tM} {v : Int32} (hm : m_X8_parent b0 fu a0 p0 σ = some (v, τ)) : tMt l D aC b0 yX8_parent (Cond.code yX8_parent cX8_parent 2 (some .int)) 1 22 [.ref (a0), .int (p0)] σ (.inl (some (.int v))) τ := by
  unfold m_X8_parent at hm
  obtain ⟨hg, hm⟩ := grw_e hm
  refine tMt_of (n := 0) rfl (Nat.le_of_ble_eq_true rfl) hg ?_
  intro p e s m below meth c C htab hin
  refine zx_lv [0, 1] [(0, .ref (a0)), (1, .int (p0))] rfl ?_
  refine zx_aload_n C dX8_parent_0 0 rfl ?_
  refine zx_iload_n C dX8_parent_1 1 rfl ?_
  refine zx_iconst (v := 0) C dX8_parent_2 (by decide) ?_
  obtain ⟨k1, i2, hm⟩ := ckO_e hm
  obtain ⟨v3, ρ4, h5, hm⟩ := cll_e hm
  refine zx_callV (σ := σ) C [.int (p0), .int (0)] tC_8 k1 i2 Y_X8_nodeWord W_3_83 W_3_84 W_3_85 (c_X8_nodeWord h5) (by decide) (by decide) rfl (Nat.le_of_ble_eq_true rfl) dX8_parent_3 rfl ?_
  refine zx_bipush (v := 16) C dX8_parent_6 (by decide) ?_
  refine zx_lushr C dX8_parent_8 ?_
  refine zx_ldc2 (v := 255) C W_3_87 dX8_parent_9 ?_
  refine zx_land C dX8_parent_12 ?_
  refine zx_l2i C dX8_parent_13 ?_
  obtain ⟨rfl, rfl⟩ := ret_e hm
  exact zx_iret C rfl rfl rfl dX8_parent_14
abbrev cX8_size : ByteArray := prog_10_method_9_code
def yX8_size : MethodName := ⟨"SyncTree$Tree", "size", "(I)I"⟩
theorem Y_X8_size : tY yX8_size cX8_size 2 (some .int) 1 := ⟨W_4_135, W_1_4, ⟨by decide +kernel, by decide +kernel⟩, by decide +kernel⟩
theorem dX8_size_0 : decode cX8_size 0 = .ok (.aload_n 0, 1) := by decide +kernel
theorem dX8_size_1 : decode cX8_size 1 = .ok (.iload_n 1, 1) := by decide +kernel
theorem dX8_size_2 : decode cX8_size 2 = .ok (.iconst 0, 1) := by decide +kernel
theorem dX8_size_3 : decode cX8_size 3 = .ok (.invokevirtual 30, 3) := by decide +kernel
theorem dX8_size_6 : decode cX8_size 6 = .ok (.bipush 32, 2) := by decide +kernel
theorem dX8_size_8 : decode cX8_size 8 = .ok (.lushr, 1) := by decide +kernel
theorem dX8_size_9 : decode cX8_size 9 = .ok (.l2i, 1) := by decide +kernel
theorem dX8_size_10 : decode cX8_size 10 = .ok (.ireturn, 1) := by decide +kernel
def m_X8_size (b0 fu : Nat) (a0 : Nat) (p0 : Int32) (σ : tM) : Option ((Int32) × tM) := grw σ (ckO b0 (σ) (a0) 8 (cll (m_X8_nodeWord b0 fu (a0) (p0) (0) (σ)) (fun v3 ρ4 => some ((((v3).toUInt64 >>> (((32 : Int32)).toInt64.toUInt64 &&& Int64.toUInt64 63)).toInt64).toInt32, ρ4))))
set_option maxRecDepth 100000 in
set_option maxHeartbeats 1000000 in
theorem c_X8_size {l : Launch} {D : va_G} {aC : Nat → ClassId} {b0 fu : Nat} {a0 : Nat} {p0 : Int32} {σ τ : tM} {v : Int32} (hm : m_X8_size b0 fu a0 p0 σ = some (v, τ)) : tMt l D aC b0 yX8_size (Cond.code yX8_size cX8_size 2 (some .int)) 1 22 [.ref (a0), .int (p0)] σ (.inl (some (.int v))) τ := by
  unfold m_X8_size at hm
  obtain ⟨hg, hm⟩ := grw_e hm
  refine tMt_of (n := 0) rfl (Nat.le_of_ble_eq_true rfl) hg ?_
  intro p e s m below meth c C htab hin
  refine zx_lv [0, 1] [(0, .ref (a0)), (1, .int (p0))] rfl ?_
  refine zx_aload_n C dX8_size_0 0 rfl ?_
  refine zx_iload_n C dX8_size_1 1 rfl ?_
  refine zx_iconst (v := 0) C dX8_size_2 (by decide) ?_
  obtain ⟨k1, i2, hm⟩ := ckO_e hm
  obtain ⟨v3, ρ4, h5, hm⟩ := cll_e hm
  refine zx_callV (σ := σ) C [.int (p0), .int (0)] tC_8 k1 i2 Y_X8_nodeWord W_3_83 W_3_84 W_3_85 (c_X8_nodeWord h5) (by decide) (by decide) rfl (Nat.le_of_ble_eq_true rfl) dX8_size_3 rfl ?_
  refine zx_bipush (v := 32) C dX8_size_6 (by decide) ?_
  refine zx_lushr C dX8_size_8 ?_
  refine zx_l2i C dX8_size_9 ?_
  obtain ⟨rfl, rfl⟩ := ret_e hm
  exact zx_iret C rfl rfl rfl dX8_size_10
abbrev cX8_setHeader : ByteArray := prog_10_method_10_code
def yX8_setHeader : MethodName := ⟨"SyncTree$Tree", "setHeader", "(IIIII)V"⟩
theorem Y_X8_setHeader : tY yX8_setHeader cX8_setHeader 6 none 5 := ⟨W_2_151, W_1_4, ⟨by decide +kernel, by decide +kernel⟩, by decide +kernel⟩
theorem dX8_setHeader_0 : decode cX8_setHeader 0 = .ok (.aload_n 0, 1) := by decide +kernel
theorem dX8_setHeader_1 : decode cX8_setHeader 1 = .ok (.iload_n 1, 1) := by decide +kernel
theorem dX8_setHeader_2 : decode cX8_setHeader 2 = .ok (.iconst 0, 1) := by decide +kernel
theorem dX8_setHeader_3 : decode cX8_setHeader 3 = .ok (.iload 5, 2) := by decide +kernel
theorem dX8_setHeader_5 : decode cX8_setHeader 5 = .ok (.i2l, 1) := by decide +kernel
theorem dX8_setHeader_6 : decode cX8_setHeader 6 = .ok (.bipush 32, 2) := by decide +kernel
theorem dX8_setHeader_8 : decode cX8_setHeader 8 = .ok (.lshl, 1) := by decide +kernel
theorem dX8_setHeader_9 : decode cX8_setHeader 9 = .ok (.iload 4, 2) := by decide +kernel
theorem dX8_setHeader_11 : decode cX8_setHeader 11 = .ok (.i2l, 1) := by decide +kernel
theorem dX8_setHeader_12 : decode cX8_setHeader 12 = .ok (.bipush 16, 2) := by decide +kernel
theorem dX8_setHeader_14 : decode cX8_setHeader 14 = .ok (.lshl, 1) := by decide +kernel
theorem dX8_setHeader_15 : decode cX8_setHeader 15 = .ok (.lor, 1) := by decide +kernel
theorem dX8_setHeader_16 : decode cX8_setHeader 16 = .ok (.iload_n 3, 1) := by decide +kernel
theorem dX8_setHeader_17 : decode cX8_setHeader 17 = .ok (.i2l, 1) := by decide +kernel
theorem dX8_setHeader_18 : decode cX8_setHeader 18 = .ok (.bipush 8, 2) := by decide +kernel
theorem dX8_setHeader_20 : decode cX8_setHeader 20 = .ok (.lshl, 1) := by decide +kernel
theorem dX8_setHeader_21 : decode cX8_setHeader 21 = .ok (.lor, 1) := by decide +kernel
theorem dX8_setHeader_22 : decode cX8_setHeader 22 = .ok (.iload_n 2, 1) := by decide +kernel
theorem dX8_setHeader_23 : decode cX8_setHeader 23 = .ok (.i2l, 1) := by decide +kernel
theorem dX8_setHeader_24 : decode cX8_setHeader 24 = .ok (.lor, 1) := by decide +kernel
theorem dX8_setHeader_25 : decode cX8_setHeader 25 = .ok (.invokevirtual 36, 3) := by decide +kernel
theorem dX8_setHeader_28 : decode cX8_setHeader 28 = .ok (.return_, 1) := by decide +kernel
def m_X8_setHeader (b0 fu : Nat) (a0 : Nat) (p0 : Int32) (p1 : Int32) (p2 : Int32) (p3 : Int32) (p4 : Int32) (σ : tM) : Option ((Unit) × tM) := grw σ (ckO b0 (σ) (a0) 8 (cll (m_X8_setNodeWord b0 fu (a0) (p0) (0) ((((((p4).toInt64) <<< (((32 : Int32)).toInt64 &&& 63)) ||| (((p3).toInt64) <<< (((16 : Int32)).toInt64 &&& 63))) ||| (((p2).toInt64) <<< (((8 : Int32)).toInt64 &&& 63))) ||| ((p1).toInt64)) (σ)) (fun v3 ρ4 => some ((), ρ4))))
set_option maxRecDepth 100000 in
set_option maxHeartbeats 1000000 in
theorem c_X8_setHeader {l : Launch} {D : va_G} {aC : Nat → ClassId} {b0 fu : Nat} {a0 : Nat} {p0 : Int32} {p1 : Int32} {p2 : Int32} {p3 : Int32} {p4 : Int32} {σ τ : tM} {v : Unit} (hm : m_X8_setHeader b0 fu a0 p0 p1 p2 p3 p4 σ = some (v, τ)) : tMt l D aC b0 yX8_setHeader (Cond.code yX8_setHeader cX8_setHeader 6 none) 2 45 [.ref (a0), .int (p0), .int (p1), .int (p2), .int (p3), .int (p4)] σ (.inl none) τ := by
  unfold m_X8_setHeader at hm
  obtain ⟨hg, hm⟩ := grw_e hm
  refine tMt_of (n := 0) rfl (Nat.le_of_ble_eq_true rfl) hg ?_
  intro p e s m below meth c C htab hin
  refine zx_lv [0, 1, 2, 3, 4, 5] [(0, .ref (a0)), (1, .int (p0)), (2, .int (p1)), (3, .int (p2)), (4, .int (p3)), (5, .int (p4))] rfl ?_
  refine zx_aload_n C dX8_setHeader_0 0 rfl ?_
  refine zx_iload_n C dX8_setHeader_1 1 rfl ?_
  refine zx_iconst (v := 0) C dX8_setHeader_2 (by decide) ?_
  refine zx_iload C dX8_setHeader_3 5 rfl ?_
  refine zx_i2l C dX8_setHeader_5 ?_
  refine zx_bipush (v := 32) C dX8_setHeader_6 (by decide) ?_
  refine zx_lshl C dX8_setHeader_8 ?_
  refine zx_iload C dX8_setHeader_9 4 rfl ?_
  refine zx_i2l C dX8_setHeader_11 ?_
  refine zx_bipush (v := 16) C dX8_setHeader_12 (by decide) ?_
  refine zx_lshl C dX8_setHeader_14 ?_
  refine zx_lor C dX8_setHeader_15 ?_
  refine zx_iload_n C dX8_setHeader_16 3 rfl ?_
  refine zx_i2l C dX8_setHeader_17 ?_
  refine zx_bipush (v := 8) C dX8_setHeader_18 (by decide) ?_
  refine zx_lshl C dX8_setHeader_20 ?_
  refine zx_lor C dX8_setHeader_21 ?_
  refine zx_iload_n C dX8_setHeader_22 2 rfl ?_
  refine zx_i2l C dX8_setHeader_23 ?_
  refine zx_lor C dX8_setHeader_24 ?_
  obtain ⟨k1, i2, hm⟩ := ckO_e hm
  obtain ⟨v3, ρ4, h5, hm⟩ := cll_e hm
  refine zx_callV (σ := σ) C [.int (p0), .int (0), .long ((((((p4).toInt64) <<< (((32 : Int32)).toInt64 &&& 63)) ||| (((p3).toInt64) <<< (((16 : Int32)).toInt64 &&& 63))) ||| (((p2).toInt64) <<< (((8 : Int32)).toInt64 &&& 63))) ||| ((p1).toInt64))] tC_8 k1 i2 Y_X8_setNodeWord W_2_152 W_2_154 Wp_6 (c_X8_setNodeWord h5) (by decide) (by decide) rfl (Nat.le_of_ble_eq_true rfl) dX8_setHeader_25 rfl ?_
  obtain ⟨rfl, rfl⟩ := ret_e hm
  exact zx_vret C rfl rfl rfl dX8_setHeader_28
abbrev cX8_setNames : ByteArray := prog_10_method_11_code
def yX8_setNames : MethodName := ⟨"SyncTree$Tree", "setNames", "(II)V"⟩
theorem Y_X8_setNames : tY yX8_setNames cX8_setNames 3 none 2 := ⟨W_5_19, W_1_4, ⟨by decide +kernel, by decide +kernel⟩, by decide +kernel⟩
theorem dX8_setNames_0 : decode cX8_setNames 0 = .ok (.aload_n 0, 1) := by decide +kernel
theorem dX8_setNames_1 : decode cX8_setNames 1 = .ok (.iload_n 1, 1) := by decide +kernel
theorem dX8_setNames_2 : decode cX8_setNames 2 = .ok (.aload_n 0, 1) := by decide +kernel
theorem dX8_setNames_3 : decode cX8_setNames 3 = .ok (.iload_n 1, 1) := by decide +kernel
theorem dX8_setNames_4 : decode cX8_setNames 4 = .ok (.invokevirtual 40, 3) := by decide +kernel
theorem dX8_setNames_7 : decode cX8_setNames 7 = .ok (.iconst 0, 1) := by decide +kernel
theorem dX8_setNames_8 : decode cX8_setNames 8 = .ok (.iload_n 2, 1) := by decide +kernel
theorem dX8_setNames_9 : decode cX8_setNames 9 = .ok (.invokestatic 44, 3) := by decide +kernel
theorem dX8_setNames_12 : decode cX8_setNames 12 = .ok (.aload_n 0, 1) := by decide +kernel
theorem dX8_setNames_13 : decode cX8_setNames 13 = .ok (.iload_n 1, 1) := by decide +kernel
theorem dX8_setNames_14 : decode cX8_setNames 14 = .ok (.invokevirtual 50, 3) := by decide +kernel
theorem dX8_setNames_17 : decode cX8_setNames 17 = .ok (.aload_n 0, 1) := by decide +kernel
theorem dX8_setNames_18 : decode cX8_setNames 18 = .ok (.iload_n 1, 1) := by decide +kernel
theorem dX8_setNames_19 : decode cX8_setNames 19 = .ok (.invokevirtual 53, 3) := by decide +kernel
theorem dX8_setNames_22 : decode cX8_setNames 22 = .ok (.invokevirtual 56, 3) := by decide +kernel
theorem dX8_setNames_25 : decode cX8_setNames 25 = .ok (.return_, 1) := by decide +kernel
def m_X8_setNames (b0 fu : Nat) (a0 : Nat) (p0 : Int32) (p1 : Int32) (σ : tM) : Option ((Unit) × tM) := grw σ (ckO b0 (σ) (a0) 8 (cll (m_X8_kind b0 fu (a0) (p0) (σ)) (fun v3 ρ4 => ckO b0 (ρ4) (a0) 8 (cll (m_X8_parent b0 fu (a0) (p0) (ρ4)) (fun v8 ρ9 => ckO b0 (ρ9) (a0) 8 (cll (m_X8_size b0 fu (a0) (p0) (ρ9)) (fun v13 ρ14 => ckO b0 (ρ14) (a0) 8 (cll (m_X8_setHeader b0 fu (a0) (p0) (v3) ((if ((0 : Int32)) < (p1) then (p1) else (0) : Int32)) (v8) (v13) (ρ14)) (fun v18 ρ19 => some ((), ρ19))))))))))
set_option maxRecDepth 100000 in
set_option maxHeartbeats 1000000 in
theorem c_X8_setNames {l : Launch} {D : va_G} {aC : Nat → ClassId} {b0 fu : Nat} {a0 : Nat} {p0 : Int32} {p1 : Int32} {σ τ : tM} {v : Unit} (hm : m_X8_setNames b0 fu a0 p0 p1 σ = some (v, τ)) : tMt l D aC b0 yX8_setNames (Cond.code yX8_setNames cX8_setNames 3 none) 3 70 [.ref (a0), .int (p0), .int (p1)] σ (.inl none) τ := by
  unfold m_X8_setNames at hm
  obtain ⟨hg, hm⟩ := grw_e hm
  refine tMt_of (n := 0) rfl (Nat.le_of_ble_eq_true rfl) hg ?_
  intro p e s m below meth c C htab hin
  refine zx_lv [0, 1, 2] [(0, .ref (a0)), (1, .int (p0)), (2, .int (p1))] rfl ?_
  refine zx_aload_n C dX8_setNames_0 0 rfl ?_
  refine zx_iload_n C dX8_setNames_1 1 rfl ?_
  refine zx_aload_n C dX8_setNames_2 0 rfl ?_
  refine zx_iload_n C dX8_setNames_3 1 rfl ?_
  obtain ⟨k1, i2, hm⟩ := ckO_e hm
  obtain ⟨v3, ρ4, h5, hm⟩ := cll_e hm
  refine zx_callV (σ := σ) C [.int (p0)] tC_8 k1 i2 Y_X8_kind W_3_79 W_3_80 W_3_81 (c_X8_kind h5) (by decide) (by decide) rfl (Nat.le_of_ble_eq_true rfl) dX8_setNames_4 rfl ?_
  refine zx_iconst (v := 0) C dX8_setNames_7 (by decide) ?_
  refine zx_iload_n C dX8_setNames_8 2 rfl ?_
  refine zx_max C W_5_20 W_2_109 W_1_10 W_2_110 (by decide) (by decide) (Nat.le_of_ble_eq_true rfl) dX8_setNames_9 ?_
  refine zx_aload_n C dX8_setNames_12 0 rfl ?_
  refine zx_iload_n C dX8_setNames_13 1 rfl ?_
  obtain ⟨k6, i7, hm⟩ := ckO_e hm
  obtain ⟨v8, ρ9, h10, hm⟩ := cll_e hm
  refine zx_callV (σ := ρ4) C [.int (p0)] tC_8 k6 i7 Y_X8_parent W_4_194 W_4_97 W_4_98 (c_X8_parent h10) (by decide) (by decide) rfl (Nat.le_of_ble_eq_true rfl) dX8_setNames_14 rfl ?_
  refine zx_aload_n C dX8_setNames_17 0 rfl ?_
  refine zx_iload_n C dX8_setNames_18 1 rfl ?_
  obtain ⟨k11, i12, hm⟩ := ckO_e hm
  obtain ⟨v13, ρ14, h15, hm⟩ := cll_e hm
  refine zx_callV (σ := ρ9) C [.int (p0)] tC_8 k11 i12 Y_X8_size W_4_224 W_4_133 W_4_134 (c_X8_size h15) (by decide) (by decide) rfl (Nat.le_of_ble_eq_true rfl) dX8_setNames_19 rfl ?_
  obtain ⟨k16, i17, hm⟩ := ckO_e hm
  obtain ⟨v18, ρ19, h20, hm⟩ := cll_e hm
  refine zx_callV (σ := ρ14) C [.int (p0), .int (v3), .int ((if ((0 : Int32)) < (p1) then (p1) else (0) : Int32)), .int (v8), .int (v13)] tC_8 k16 i17 Y_X8_setHeader W_2_148 W_2_150 Wp_5 (c_X8_setHeader h20) (by decide) (by decide) rfl (Nat.le_of_ble_eq_true rfl) dX8_setNames_22 rfl ?_
  obtain ⟨rfl, rfl⟩ := ret_e hm
  exact zx_vret C rfl rfl rfl dX8_setNames_25
abbrev cX8_setParent : ByteArray := prog_10_method_12_code
def yX8_setParent : MethodName := ⟨"SyncTree$Tree", "setParent", "(II)V"⟩
theorem Y_X8_setParent : tY yX8_setParent cX8_setParent 3 none 2 := ⟨W_5_122, W_1_4, ⟨by decide +kernel, by decide +kernel⟩, by decide +kernel⟩
theorem dX8_setParent_0 : decode cX8_setParent 0 = .ok (.aload_n 0, 1) := by decide +kernel
theorem dX8_setParent_1 : decode cX8_setParent 1 = .ok (.iload_n 1, 1) := by decide +kernel
theorem dX8_setParent_2 : decode cX8_setParent 2 = .ok (.aload_n 0, 1) := by decide +kernel
theorem dX8_setParent_3 : decode cX8_setParent 3 = .ok (.iload_n 1, 1) := by decide +kernel
theorem dX8_setParent_4 : decode cX8_setParent 4 = .ok (.invokevirtual 40, 3) := by decide +kernel
theorem dX8_setParent_7 : decode cX8_setParent 7 = .ok (.aload_n 0, 1) := by decide +kernel
theorem dX8_setParent_8 : decode cX8_setParent 8 = .ok (.iload_n 1, 1) := by decide +kernel
theorem dX8_setParent_9 : decode cX8_setParent 9 = .ok (.invokevirtual 60, 3) := by decide +kernel
theorem dX8_setParent_12 : decode cX8_setParent 12 = .ok (.iload_n 2, 1) := by decide +kernel
theorem dX8_setParent_13 : decode cX8_setParent 13 = .ok (.aload_n 0, 1) := by decide +kernel
theorem dX8_setParent_14 : decode cX8_setParent 14 = .ok (.iload_n 1, 1) := by decide +kernel
theorem dX8_setParent_15 : decode cX8_setParent 15 = .ok (.invokevirtual 53, 3) := by decide +kernel
theorem dX8_setParent_18 : decode cX8_setParent 18 = .ok (.invokevirtual 56, 3) := by decide +kernel
theorem dX8_setParent_21 : decode cX8_setParent 21 = .ok (.return_, 1) := by decide +kernel
def m_X8_setParent (b0 fu : Nat) (a0 : Nat) (p0 : Int32) (p1 : Int32) (σ : tM) : Option ((Unit) × tM) := grw σ (ckO b0 (σ) (a0) 8 (cll (m_X8_kind b0 fu (a0) (p0) (σ)) (fun v3 ρ4 => ckO b0 (ρ4) (a0) 8 (cll (m_X8_names b0 fu (a0) (p0) (ρ4)) (fun v8 ρ9 => ckO b0 (ρ9) (a0) 8 (cll (m_X8_size b0 fu (a0) (p0) (ρ9)) (fun v13 ρ14 => ckO b0 (ρ14) (a0) 8 (cll (m_X8_setHeader b0 fu (a0) (p0) (v3) (v8) (p1) (v13) (ρ14)) (fun v18 ρ19 => some ((), ρ19))))))))))
set_option maxRecDepth 100000 in
set_option maxHeartbeats 1000000 in
theorem c_X8_setParent {l : Launch} {D : va_G} {aC : Nat → ClassId} {b0 fu : Nat} {a0 : Nat} {p0 : Int32} {p1 : Int32} {σ τ : tM} {v : Unit} (hm : m_X8_setParent b0 fu a0 p0 p1 σ = some (v, τ)) : tMt l D aC b0 yX8_setParent (Cond.code yX8_setParent cX8_setParent 3 none) 3 70 [.ref (a0), .int (p0), .int (p1)] σ (.inl none) τ := by
  unfold m_X8_setParent at hm
  obtain ⟨hg, hm⟩ := grw_e hm
  refine tMt_of (n := 0) rfl (Nat.le_of_ble_eq_true rfl) hg ?_
  intro p e s m below meth c C htab hin
  refine zx_lv [0, 1, 2] [(0, .ref (a0)), (1, .int (p0)), (2, .int (p1))] rfl ?_
  refine zx_aload_n C dX8_setParent_0 0 rfl ?_
  refine zx_iload_n C dX8_setParent_1 1 rfl ?_
  refine zx_aload_n C dX8_setParent_2 0 rfl ?_
  refine zx_iload_n C dX8_setParent_3 1 rfl ?_
  obtain ⟨k1, i2, hm⟩ := ckO_e hm
  obtain ⟨v3, ρ4, h5, hm⟩ := cll_e hm
  refine zx_callV (σ := σ) C [.int (p0)] tC_8 k1 i2 Y_X8_kind W_3_79 W_3_80 W_3_81 (c_X8_kind h5) (by decide) (by decide) rfl (Nat.le_of_ble_eq_true rfl) dX8_setParent_4 rfl ?_
  refine zx_aload_n C dX8_setParent_7 0 rfl ?_
  refine zx_iload_n C dX8_setParent_8 1 rfl ?_
  obtain ⟨k6, i7, hm⟩ := ckO_e hm
  obtain ⟨v8, ρ9, h10, hm⟩ := cll_e hm
  refine zx_callV (σ := ρ4) C [.int (p0)] tC_8 k6 i7 Y_X8_names W_4_190 W_4_191 W_4_192 (c_X8_names h10) (by decide) (by decide) rfl (Nat.le_of_ble_eq_true rfl) dX8_setParent_9 rfl ?_
  refine zx_iload_n C dX8_setParent_12 2 rfl ?_
  refine zx_aload_n C dX8_setParent_13 0 rfl ?_
  refine zx_iload_n C dX8_setParent_14 1 rfl ?_
  obtain ⟨k11, i12, hm⟩ := ckO_e hm
  obtain ⟨v13, ρ14, h15, hm⟩ := cll_e hm
  refine zx_callV (σ := ρ9) C [.int (p0)] tC_8 k11 i12 Y_X8_size W_4_224 W_4_133 W_4_134 (c_X8_size h15) (by decide) (by decide) rfl (Nat.le_of_ble_eq_true rfl) dX8_setParent_15 rfl ?_
  obtain ⟨k16, i17, hm⟩ := ckO_e hm
  obtain ⟨v18, ρ19, h20, hm⟩ := cll_e hm
  refine zx_callV (σ := ρ14) C [.int (p0), .int (v3), .int (v8), .int (p1), .int (v13)] tC_8 k16 i17 Y_X8_setHeader W_2_148 W_2_150 Wp_5 (c_X8_setHeader h20) (by decide) (by decide) rfl (Nat.le_of_ble_eq_true rfl) dX8_setParent_18 rfl ?_
  obtain ⟨rfl, rfl⟩ := ret_e hm
  exact zx_vret C rfl rfl rfl dX8_setParent_21
abbrev cX8_setSize : ByteArray := prog_10_method_13_code
def yX8_setSize : MethodName := ⟨"SyncTree$Tree", "setSize", "(II)V"⟩
theorem Y_X8_setSize : tY yX8_setSize cX8_setSize 3 none 2 := ⟨W_4_189, W_1_4, ⟨by decide +kernel, by decide +kernel⟩, by decide +kernel⟩
theorem dX8_setSize_0 : decode cX8_setSize 0 = .ok (.aload_n 0, 1) := by decide +kernel
theorem dX8_setSize_1 : decode cX8_setSize 1 = .ok (.iload_n 1, 1) := by decide +kernel
theorem dX8_setSize_2 : decode cX8_setSize 2 = .ok (.aload_n 0, 1) := by decide +kernel
theorem dX8_setSize_3 : decode cX8_setSize 3 = .ok (.iload_n 1, 1) := by decide +kernel
theorem dX8_setSize_4 : decode cX8_setSize 4 = .ok (.invokevirtual 40, 3) := by decide +kernel
theorem dX8_setSize_7 : decode cX8_setSize 7 = .ok (.aload_n 0, 1) := by decide +kernel
theorem dX8_setSize_8 : decode cX8_setSize 8 = .ok (.iload_n 1, 1) := by decide +kernel
theorem dX8_setSize_9 : decode cX8_setSize 9 = .ok (.invokevirtual 60, 3) := by decide +kernel
theorem dX8_setSize_12 : decode cX8_setSize 12 = .ok (.aload_n 0, 1) := by decide +kernel
theorem dX8_setSize_13 : decode cX8_setSize 13 = .ok (.iload_n 1, 1) := by decide +kernel
theorem dX8_setSize_14 : decode cX8_setSize 14 = .ok (.invokevirtual 50, 3) := by decide +kernel
theorem dX8_setSize_17 : decode cX8_setSize 17 = .ok (.iload_n 2, 1) := by decide +kernel
theorem dX8_setSize_18 : decode cX8_setSize 18 = .ok (.invokevirtual 56, 3) := by decide +kernel
theorem dX8_setSize_21 : decode cX8_setSize 21 = .ok (.return_, 1) := by decide +kernel
def m_X8_setSize (b0 fu : Nat) (a0 : Nat) (p0 : Int32) (p1 : Int32) (σ : tM) : Option ((Unit) × tM) := grw σ (ckO b0 (σ) (a0) 8 (cll (m_X8_kind b0 fu (a0) (p0) (σ)) (fun v3 ρ4 => ckO b0 (ρ4) (a0) 8 (cll (m_X8_names b0 fu (a0) (p0) (ρ4)) (fun v8 ρ9 => ckO b0 (ρ9) (a0) 8 (cll (m_X8_parent b0 fu (a0) (p0) (ρ9)) (fun v13 ρ14 => ckO b0 (ρ14) (a0) 8 (cll (m_X8_setHeader b0 fu (a0) (p0) (v3) (v8) (v13) (p1) (ρ14)) (fun v18 ρ19 => some ((), ρ19))))))))))
set_option maxRecDepth 100000 in
set_option maxHeartbeats 1000000 in
theorem c_X8_setSize {l : Launch} {D : va_G} {aC : Nat → ClassId} {b0 fu : Nat} {a0 : Nat} {p0 : Int32} {p1 : Int32} {σ τ : tM} {v : Unit} (hm : m_X8_setSize b0 fu a0 p0 p1 σ = some (v, τ)) : tMt l D aC b0 yX8_setSize (Cond.code yX8_setSize cX8_setSize 3 none) 3 70 [.ref (a0), .int (p0), .int (p1)] σ (.inl none) τ := by
  unfold m_X8_setSize at hm
  obtain ⟨hg, hm⟩ := grw_e hm
  refine tMt_of (n := 0) rfl (Nat.le_of_ble_eq_true rfl) hg ?_
  intro p e s m below meth c C htab hin
  refine zx_lv [0, 1, 2] [(0, .ref (a0)), (1, .int (p0)), (2, .int (p1))] rfl ?_
  refine zx_aload_n C dX8_setSize_0 0 rfl ?_
  refine zx_iload_n C dX8_setSize_1 1 rfl ?_
  refine zx_aload_n C dX8_setSize_2 0 rfl ?_
  refine zx_iload_n C dX8_setSize_3 1 rfl ?_
  obtain ⟨k1, i2, hm⟩ := ckO_e hm
  obtain ⟨v3, ρ4, h5, hm⟩ := cll_e hm
  refine zx_callV (σ := σ) C [.int (p0)] tC_8 k1 i2 Y_X8_kind W_3_79 W_3_80 W_3_81 (c_X8_kind h5) (by decide) (by decide) rfl (Nat.le_of_ble_eq_true rfl) dX8_setSize_4 rfl ?_
  refine zx_aload_n C dX8_setSize_7 0 rfl ?_
  refine zx_iload_n C dX8_setSize_8 1 rfl ?_
  obtain ⟨k6, i7, hm⟩ := ckO_e hm
  obtain ⟨v8, ρ9, h10, hm⟩ := cll_e hm
  refine zx_callV (σ := ρ4) C [.int (p0)] tC_8 k6 i7 Y_X8_names W_4_190 W_4_191 W_4_192 (c_X8_names h10) (by decide) (by decide) rfl (Nat.le_of_ble_eq_true rfl) dX8_setSize_9 rfl ?_
  refine zx_aload_n C dX8_setSize_12 0 rfl ?_
  refine zx_iload_n C dX8_setSize_13 1 rfl ?_
  obtain ⟨k11, i12, hm⟩ := ckO_e hm
  obtain ⟨v13, ρ14, h15, hm⟩ := cll_e hm
  refine zx_callV (σ := ρ9) C [.int (p0)] tC_8 k11 i12 Y_X8_parent W_4_194 W_4_97 W_4_98 (c_X8_parent h15) (by decide) (by decide) rfl (Nat.le_of_ble_eq_true rfl) dX8_setSize_14 rfl ?_
  refine zx_iload_n C dX8_setSize_17 2 rfl ?_
  obtain ⟨k16, i17, hm⟩ := ckO_e hm
  obtain ⟨v18, ρ19, h20, hm⟩ := cll_e hm
  refine zx_callV (σ := ρ14) C [.int (p0), .int (v3), .int (v8), .int (v13), .int (p1)] tC_8 k16 i17 Y_X8_setHeader W_2_148 W_2_150 Wp_5 (c_X8_setHeader h20) (by decide) (by decide) rfl (Nat.le_of_ble_eq_true rfl) dX8_setSize_18 rfl ?_
  obtain ⟨rfl, rfl⟩ := ret_e hm
  exact zx_vret C rfl rfl rfl dX8_setSize_21
