abbrev cX6_init : ByteArray := prog_8_method_1_code
def yX6_init : MethodName := ⟨"SyncTree$Tape", "<init>", "()V"⟩
theorem Y_X6_init : tY yX6_init cX6_init 1 none 0 := ⟨W_2_40, W_1_8, ⟨by decide +kernel, by decide +kernel⟩, by decide +kernel⟩
theorem dX6_init_0 : decode cX6_init 0 = .ok (.aload_n 0, 1) := by decide +kernel
theorem dX6_init_1 : decode cX6_init 1 = .ok (.invokespecial 3, 3) := by decide +kernel
theorem dX6_init_4 : decode cX6_init 4 = .ok (.aload_n 0, 1) := by decide +kernel
theorem dX6_init_5 : decode cX6_init 5 = .ok (.sipush 4000, 3) := by decide +kernel
theorem dX6_init_8 : decode cX6_init 8 = .ok (.newarray .byte, 2) := by decide +kernel
theorem dX6_init_10 : decode cX6_init 10 = .ok (.putfield 11, 3) := by decide +kernel
theorem dX6_init_13 : decode cX6_init 13 = .ok (.return_, 1) := by decide +kernel
def m_X6_init (b0 fu : Nat) (a0 : Nat) (σ : tM) : Option ((Unit) × tM) := grw σ (ckO b0 (sN (σ) (b0 + tn (σ)) (.inr (1, ((4000 : Int32)).toNatClampNeg)) (((4000 : Int32)).toNatClampNeg)) (a0) 6 (some ((), sA (sN (σ) (b0 + tn (σ)) (.inr (1, ((4000 : Int32)).toNatClampNeg)) (((4000 : Int32)).toNatClampNeg)) (a0) 0 (some (b0 + tn (σ))))))
set_option maxRecDepth 100000 in
set_option maxHeartbeats 4000000 in
theorem c_X6_init {l : Launch} {D : va_G} {aC : Nat → ClassId} {b0 fu : Nat} {a0 : Nat} {σ τ : tM} {v : Unit} (hm : m_X6_init b0 fu a0 σ = some (v, τ)) : tMt l D aC b0 yX6_init (Cond.code yX6_init cX6_init 1 none) 1 20 [.ref (a0)] σ (.inl none) τ := by
  unfold m_X6_init at hm
  obtain ⟨hg, hm⟩ := grw_e hm
  refine tMt_of (n := 0) rfl (Nat.le_of_ble_eq_true rfl) hg ?_
  intro p e s m below meth c C htab hin
  refine zx_lv [0] [(0, .ref (a0))] rfl ?_
  refine zx_aload_n C dX6_init_0 0 rfl ?_
  refine zx_obj C W_2_41 W_1_26 W_1_27 (by decide) (by decide) (Nat.le_of_ble_eq_true rfl) dX6_init_1 ?_
  refine zx_aload_n C dX6_init_4 0 rfl ?_
  refine zx_sipush (v := 4000) C dX6_init_5 (by decide) ?_
  refine zx_newB C W_1_156 (by decide) (by decide) dX6_init_8 ?_
  obtain ⟨k1, i2, hm⟩ := ckO_e hm
  refine zx_putF (j := 0) (ρ := sA (sN (σ) (b0 + tn (σ)) (.inr (1, ((4000 : Int32)).toNatClampNeg)) (((4000 : Int32)).toNatClampNeg)) (a0) 0 (some (b0 + tn (σ)))) C hin tC_6 k1 i2 (by decide) W_2_42 rfl rfl rfl rfl (sA_ok (fun _ => rfl)) dX6_init_10 ?_
  obtain ⟨rfl, rfl⟩ := ret_e hm
  exact zx_vret C rfl rfl rfl dX6_init_13
abbrev cX6_hasSpace : ByteArray := prog_8_method_2_code
def yX6_hasSpace : MethodName := ⟨"SyncTree$Tape", "hasSpace", "()Z"⟩
theorem Y_X6_hasSpace : tY yX6_hasSpace cX6_hasSpace 1 (some .boolean) 0 := ⟨W_3_15, W_1_8, ⟨by decide +kernel, by decide +kernel⟩, by decide +kernel⟩
theorem dX6_hasSpace_0 : decode cX6_hasSpace 0 = .ok (.aload_n 0, 1) := by decide +kernel
theorem dX6_hasSpace_1 : decode cX6_hasSpace 1 = .ok (.getfield 15, 3) := by decide +kernel
theorem dX6_hasSpace_4 : decode cX6_hasSpace 4 = .ok (.bipush 20, 2) := by decide +kernel
theorem dX6_hasSpace_6 : decode cX6_hasSpace 6 = .ok (.iadd, 1) := by decide +kernel
theorem dX6_hasSpace_7 : decode cX6_hasSpace 7 = .ok (.sipush 4000, 3) := by decide +kernel
theorem dX6_hasSpace_10 : decode cX6_hasSpace 10 = .ok (.if_icmp .gt 7, 3) := by decide +kernel
theorem dX6_hasSpace_13 : decode cX6_hasSpace 13 = .ok (.iconst 1, 1) := by decide +kernel
theorem dX6_hasSpace_14 : decode cX6_hasSpace 14 = .ok (.goto 4, 3) := by decide +kernel
theorem dX6_hasSpace_17 : decode cX6_hasSpace 17 = .ok (.iconst 0, 1) := by decide +kernel
theorem dX6_hasSpace_18 : decode cX6_hasSpace 18 = .ok (.ireturn, 1) := by decide +kernel
def J_X6_hasSpace_18 (b0 fu : Nat)  (s0 : Int32) (σ : tM) : Option ((Int32) × tM) := ckZ (s0) (some (s0, σ))
def m_X6_hasSpace (b0 fu : Nat) (a0 : Nat) (σ : tM) : Option ((Int32) × tM) := grw σ (ckO b0 (σ) (a0) 6 (if (4000) < ((tI (σ) (a0) 1) + (20)) then J_X6_hasSpace_18 b0 fu   (0) (σ) else J_X6_hasSpace_18 b0 fu   (1) (σ)))
set_option maxRecDepth 100000 in
set_option maxHeartbeats 4000000 in
theorem j_X6_hasSpace_18 {p : Program} {l : Launch} {e : Env} {s : State} {m : MethodId} {args : Array Value} {below : List Frame} {meth : Method} {c : Code} {D : va_G} {aC : Nat → ClassId} {b0 fu : Nat} {σ0 τ : tM} {v : Int32}  (C : tCx p s m args meth c yX6_hasSpace.cls cX6_hasSpace 1 (some .boolean) D aC b0 σ0) (htab : ∀ x ∈ c.exceptionTable.toList, False) (hin : meth.name = yX6_hasSpace.name)  {s0 : Int32} {σ : tM} (hm : J_X6_hasSpace_18 b0 fu  s0 σ = some (v, τ)) : tX p l e s m args below meth c 1 0 0 D aC b0 σ0 (.inl (some (.int v))) τ 18 [] [.int (s0)] σ := by
  unfold J_X6_hasSpace_18 at hm
  obtain ⟨h4, hm⟩ := ckZ_e hm
  obtain ⟨rfl, rfl⟩ := ret_e hm
  exact zx_zret C rfl h4 rfl rfl dX6_hasSpace_18
set_option maxRecDepth 100000 in
set_option maxHeartbeats 4000000 in
theorem c_X6_hasSpace {l : Launch} {D : va_G} {aC : Nat → ClassId} {b0 fu : Nat} {a0 : Nat} {σ τ : tM} {v : Int32} (hm : m_X6_hasSpace b0 fu a0 σ = some (v, τ)) : tMt l D aC b0 yX6_hasSpace (Cond.code yX6_hasSpace cX6_hasSpace 1 (some .boolean)) 0 0 [.ref (a0)] σ (.inl (some (.int v))) τ := by
  unfold m_X6_hasSpace at hm
  obtain ⟨hg, hm⟩ := grw_e hm
  refine tMt_of (n := 0) rfl (Nat.le_of_ble_eq_true rfl) hg ?_
  intro p e s m below meth c C htab hin
  refine zx_lv [0] [(0, .ref (a0))] rfl ?_
  refine zx_aload_n C dX6_hasSpace_0 0 rfl ?_
  obtain ⟨k1, i2, hm⟩ := ckO_e hm
  refine zx_get (j := 1) C tC_6 k1 i2 ⟨by decide, Or.inl W_2_43⟩ dX6_hasSpace_1 (.int (tI (σ) (a0) 1)) rfl ?_
  refine zx_bipush (v := 20) C dX6_hasSpace_4 (by decide) ?_
  refine zx_iadd C dX6_hasSpace_6 ?_
  refine zx_sipush (v := 4000) C dX6_hasSpace_7 (by decide) ?_
  refine zx_icmp_gt C 17 dX6_hasSpace_10 (by decide) (fun c3 => ?_) (fun c3 => ?_)
  · replace hm := ip_e hm c3
    refine zx_iconst (v := 0) C dX6_hasSpace_17 (by decide) ?_
    exact zx_lv [] [] rfl (j_X6_hasSpace_18 C htab hin    hm)
  · replace hm := in_e hm c3
    refine zx_iconst (v := 1) C dX6_hasSpace_13 (by decide) ?_
    refine zx_goto C 18 dX6_hasSpace_14 (by decide) ?_
    exact zx_lv [] [] rfl (j_X6_hasSpace_18 C htab hin    hm)
abbrev cX6_append : ByteArray := prog_8_method_3_code
def yX6_append : MethodName := ⟨"SyncTree$Tape", "append", "(I)V"⟩
theorem Y_X6_append : tY yX6_append cX6_append 3 none 1 := ⟨W_3_19, W_1_8, ⟨by decide +kernel, by decide +kernel⟩, by decide +kernel⟩
theorem dX6_append_0 : decode cX6_append 0 = .ok (.bipush 24, 2) := by decide +kernel
theorem dX6_append_2 : decode cX6_append 2 = .ok (.istore_n 2, 1) := by decide +kernel
theorem dX6_append_3 : decode cX6_append 3 = .ok (.iload_n 2, 1) := by decide +kernel
theorem dX6_append_4 : decode cX6_append 4 = .ok (.ifCond .lt 42, 3) := by decide +kernel
theorem dX6_append_7 : decode cX6_append 7 = .ok (.aload_n 0, 1) := by decide +kernel
theorem dX6_append_8 : decode cX6_append 8 = .ok (.getfield 15, 3) := by decide +kernel
theorem dX6_append_11 : decode cX6_append 11 = .ok (.sipush 4000, 3) := by decide +kernel
theorem dX6_append_14 : decode cX6_append 14 = .ok (.if_icmp .ge 32, 3) := by decide +kernel
theorem dX6_append_17 : decode cX6_append 17 = .ok (.aload_n 0, 1) := by decide +kernel
theorem dX6_append_18 : decode cX6_append 18 = .ok (.getfield 11, 3) := by decide +kernel
theorem dX6_append_21 : decode cX6_append 21 = .ok (.aload_n 0, 1) := by decide +kernel
theorem dX6_append_22 : decode cX6_append 22 = .ok (.getfield 15, 3) := by decide +kernel
theorem dX6_append_25 : decode cX6_append 25 = .ok (.iload_n 1, 1) := by decide +kernel
theorem dX6_append_26 : decode cX6_append 26 = .ok (.iload_n 2, 1) := by decide +kernel
theorem dX6_append_27 : decode cX6_append 27 = .ok (.iushr, 1) := by decide +kernel
theorem dX6_append_28 : decode cX6_append 28 = .ok (.i2b, 1) := by decide +kernel
theorem dX6_append_29 : decode cX6_append 29 = .ok (.bastore, 1) := by decide +kernel
theorem dX6_append_30 : decode cX6_append 30 = .ok (.aload_n 0, 1) := by decide +kernel
theorem dX6_append_31 : decode cX6_append 31 = .ok (.dup, 1) := by decide +kernel
theorem dX6_append_32 : decode cX6_append 32 = .ok (.getfield 15, 3) := by decide +kernel
theorem dX6_append_35 : decode cX6_append 35 = .ok (.iconst 1, 1) := by decide +kernel
theorem dX6_append_36 : decode cX6_append 36 = .ok (.iadd, 1) := by decide +kernel
theorem dX6_append_37 : decode cX6_append 37 = .ok (.putfield 15, 3) := by decide +kernel
theorem dX6_append_40 : decode cX6_append 40 = .ok (.iinc 2 (-8), 3) := by decide +kernel
theorem dX6_append_43 : decode cX6_append 43 = .ok (.goto (-40), 3) := by decide +kernel
theorem dX6_append_46 : decode cX6_append 46 = .ok (.return_, 1) := by decide +kernel
def J_X6_append_46 (b0 fu : Nat)   (σ : tM) : Option ((Unit) × tM) := some ((), σ)
def L_X6_append_3 (b0 fu : Nat)  : Nat → Nat → Int32 → Int32 → tM → Option ((Unit) × tM)
  | 0, _, _, _, _ => none
  | n + 1, x0, x1, x2, σ => ltb (L_X6_append_3 b0 fu  n) (fun rc3 => if (x2) < (0) then J_X6_append_46 b0 fu    (σ) else ckO b0 (σ) (x0) 6 (if (4000) ≤ (tI (σ) (x0) 1) then J_X6_append_46 b0 fu    (σ) else osm (tA (σ) (x0) 0) (fun a5 => ckR b0 (σ) (a5) 1 (fun n9 => ckI (tI (σ) (x0) 1) (n9) (ltb ((x2) + Int32.ofInt (-8)) (fun y11 => rc3 (x0) (x1) (y11) (sI (sI (σ) (a5) ((tI (σ) (x0) 1).toNatClampNeg) (vp_nar .byte ((((x1).toUInt32 >>> ((x2).toUInt32 &&& Int32.toUInt32 31)).toInt32).toInt8.toInt32))) (x0) 1 ((tI (sI (σ) (a5) ((tI (σ) (x0) 1).toNatClampNeg) (vp_nar .byte ((((x1).toUInt32 >>> ((x2).toUInt32 &&& Int32.toUInt32 31)).toInt32).toInt8.toInt32))) (x0) 1) + (1)))))))))
def m_X6_append (b0 fu : Nat) (a0 : Nat) (p0 : Int32) (σ : tM) : Option ((Unit) × tM) := grw σ (L_X6_append_3 b0 fu  (fu) (a0) (p0) (24) (σ))
set_option maxRecDepth 100000 in
set_option maxHeartbeats 4000000 in
theorem j_X6_append_46 {p : Program} {l : Launch} {e : Env} {s : State} {m : MethodId} {args : Array Value} {below : List Frame} {meth : Method} {c : Code} {D : va_G} {aC : Nat → ClassId} {b0 fu : Nat} {σ0 τ : tM} {v : Unit}  (C : tCx p s m args meth c yX6_append.cls cX6_append 3 none D aC b0 σ0) (htab : ∀ x ∈ c.exceptionTable.toList, False) (hin : meth.name = yX6_append.name)   {σ : tM} (hm : J_X6_append_46 b0 fu   σ = some (v, τ)) : tX p l e s m args below meth c 3 0 0 D aC b0 σ0 (.inl none) τ 46 [] [] σ := by
  unfold J_X6_append_46 at hm
  obtain ⟨rfl, rfl⟩ := ret_e hm
  exact zx_vret C rfl rfl rfl dX6_append_46
set_option maxRecDepth 100000 in
set_option maxHeartbeats 4000000 in
theorem l_X6_append_3 {p : Program} {l : Launch} {e : Env} {s : State} {m : MethodId} {args : Array Value} {below : List Frame} {meth : Method} {c : Code} {D : va_G} {aC : Nat → ClassId} {b0 fu : Nat} {σ0 τ : tM} {v : Unit}  (C : tCx p s m args meth c yX6_append.cls cX6_append 3 none D aC b0 σ0) (htab : ∀ x ∈ c.exceptionTable.toList, False) (hin : meth.name = yX6_append.name)  : ∀ (n : Nat) (x0 : Nat) (x1 : Int32) (x2 : Int32) (σ : tM), L_X6_append_3 b0 fu  n x0 x1 x2 σ = some (v, τ) → tX p l e s m args below meth c 3 0 0 D aC b0 σ0 (.inl none) τ 3 [(0, .ref (x0)), (1, .int (x1)), (2, .int (x2))] [] σ := by
  intro n
  induction n with
  | zero => intro x0 x1 x2 σ hm; unfold L_X6_append_3 at hm; cases hm
  | succ n ih =>
    intro x0 x1 x2 σ hm
    unfold L_X6_append_3 at hm
    obtain ⟨rc3, hrc⟩ : ∃ z, z = L_X6_append_3 b0 fu  n := ⟨_, rfl⟩
    replace hm := ltb_e hm hrc
    rw [← hrc] at ih
    have hrc3 := ih
    clear ih hrc
    refine zx_iload_n C dX6_append_3 2 rfl ?_
    refine zx_if_lt C 46 dX6_append_4 (by decide) (fun c1 => ?_) (fun c1 => ?_)
    · replace hm := ip_e hm c1
      exact zx_lv [] [] rfl (j_X6_append_46 C htab hin    hm)
    · replace hm := in_e hm c1
      refine zx_aload_n C dX6_append_7 0 rfl ?_
      obtain ⟨k2, i3, hm⟩ := ckO_e hm
      refine zx_get (j := 1) C tC_6 k2 i3 ⟨by decide, Or.inl W_2_43⟩ dX6_append_8 (.int (tI (σ) (x0) 1)) rfl ?_
      refine zx_sipush (v := 4000) C dX6_append_11 (by decide) ?_
      refine zx_icmp_ge C 46 dX6_append_14 (by decide) (fun c4 => ?_) (fun c4 => ?_)
      · replace hm := ip_e hm c4
        exact zx_lv [] [] rfl (j_X6_append_46 C htab hin    hm)
      · replace hm := in_e hm c4
        refine zx_aload_n C dX6_append_17 0 rfl ?_
        obtain ⟨a5, h6, hm⟩ := osm_e hm
        refine zx_get (j := 0) C tC_6 k2 i3 ⟨by decide, Or.inl W_2_42⟩ dX6_append_18 (.ref a5) (rf_s h6) ?_
        refine zx_aload_n C dX6_append_21 0 rfl ?_
        refine zx_get (j := 1) C tC_6 k2 i3 ⟨by decide, Or.inl W_2_43⟩ dX6_append_22 (.int (tI (σ) (x0) 1)) rfl ?_
        refine zx_iload_n C dX6_append_25 1 rfl ?_
        refine zx_iload_n C dX6_append_26 2 rfl ?_
        refine zx_iushr C dX6_append_27 ?_
        refine zx_i2b C dX6_append_28 ?_
        obtain ⟨n9, k7, i8, hm⟩ := ckR_e hm
        obtain ⟨h10, hm⟩ := ckI_e hm
        refine zx_bast C k7 i8 h10 dX6_append_29 ?_
        refine zx_aload_n C dX6_append_30 0 rfl ?_
        refine zx_dup C dX6_append_31 rfl ?_
        refine zx_get (j := 1) C tC_6 k2 i3 ⟨by decide, Or.inl W_2_43⟩ dX6_append_32 (.int (tI (sI (σ) (a5) ((tI (σ) (x0) 1).toNatClampNeg) (vp_nar .byte ((((x1).toUInt32 >>> ((x2).toUInt32 &&& Int32.toUInt32 31)).toInt32).toInt8.toInt32))) (x0) 1)) rfl ?_
        refine zx_iconst (v := 1) C dX6_append_35 (by decide) ?_
        refine zx_iadd C dX6_append_36 ?_
        refine zx_put (j := 1) (ρ := sI (sI (σ) (a5) ((tI (σ) (x0) 1).toNatClampNeg) (vp_nar .byte ((((x1).toUInt32 >>> ((x2).toUInt32 &&& Int32.toUInt32 31)).toInt32).toInt8.toInt32))) (x0) 1 ((tI (sI (σ) (a5) ((tI (σ) (x0) 1).toNatClampNeg) (vp_nar .byte ((((x1).toUInt32 >>> ((x2).toUInt32 &&& Int32.toUInt32 31)).toInt32).toInt8.toInt32))) (x0) 1) + (1))) C tC_6 k2 i3 ⟨by decide, Or.inl W_2_43⟩ rfl rfl rfl (sI_ok (fun _ => rfl)) dX6_append_37 ?_
        obtain ⟨y11, hy11⟩ : ∃ z : Int32, z = (x2) + Int32.ofInt (-8) := ⟨_, rfl⟩
        replace hm := ltb_e hm hy11
        refine zx_iinc C [(2, .int (y11)), (0, .ref (x0)), (1, .int (x1))] dX6_append_40 2 rfl hy11.symm (by decide) rfl ?_
        refine zx_goto C 3 dX6_append_43 (by decide) ?_
        exact zx_lv [1, 2, 0] [(0, .ref (x0)), (1, .int (x1)), (2, .int (y11))] rfl (hrc3 _ _ _ _ hm)
set_option maxRecDepth 100000 in
set_option maxHeartbeats 4000000 in
theorem c_X6_append {l : Launch} {D : va_G} {aC : Nat → ClassId} {b0 fu : Nat} {a0 : Nat} {p0 : Int32} {σ τ : tM} {v : Unit} (hm : m_X6_append b0 fu a0 p0 σ = some (v, τ)) : tMt l D aC b0 yX6_append (Cond.code yX6_append cX6_append 3 none) 0 0 [.ref (a0), .int (p0)] σ (.inl none) τ := by
  unfold m_X6_append at hm
  obtain ⟨hg, hm⟩ := grw_e hm
  refine tMt_of (n := 0) rfl (Nat.le_of_ble_eq_true rfl) hg ?_
  intro p e s m below meth c C htab hin
  refine zx_lv [0, 1] [(0, .ref (a0)), (1, .int (p0))] rfl ?_
  refine zx_bipush (v := 24) C dX6_append_0 (by decide) ?_
  refine zx_istore_n C [(2, .int (24)), (0, .ref (a0)), (1, .int (p0))] dX6_append_2 rfl (by decide) rfl ?_
  exact zx_lv [1, 2, 0] [(0, .ref (a0)), (1, .int (p0)), (2, .int (24))] rfl (l_X6_append_3 C htab hin  _ _ _ _ _ hm)
abbrev cX6_useUp : ByteArray := prog_8_method_4_code
def yX6_useUp : MethodName := ⟨"SyncTree$Tape", "useUp", "()V"⟩
theorem Y_X6_useUp : tY yX6_useUp cX6_useUp 1 none 0 := ⟨W_2_205, W_1_8, ⟨by decide +kernel, by decide +kernel⟩, by decide +kernel⟩
theorem dX6_useUp_0 : decode cX6_useUp 0 = .ok (.aload_n 0, 1) := by decide +kernel
theorem dX6_useUp_1 : decode cX6_useUp 1 = .ok (.iconst 0, 1) := by decide +kernel
theorem dX6_useUp_2 : decode cX6_useUp 2 = .ok (.putfield 15, 3) := by decide +kernel
theorem dX6_useUp_5 : decode cX6_useUp 5 = .ok (.return_, 1) := by decide +kernel
def m_X6_useUp (b0 fu : Nat) (a0 : Nat) (σ : tM) : Option ((Unit) × tM) := grw σ (ckO b0 (σ) (a0) 6 (some ((), sI (σ) (a0) 1 (0))))
set_option maxRecDepth 100000 in
set_option maxHeartbeats 4000000 in
theorem c_X6_useUp {l : Launch} {D : va_G} {aC : Nat → ClassId} {b0 fu : Nat} {a0 : Nat} {σ τ : tM} {v : Unit} (hm : m_X6_useUp b0 fu a0 σ = some (v, τ)) : tMt l D aC b0 yX6_useUp (Cond.code yX6_useUp cX6_useUp 1 none) 0 0 [.ref (a0)] σ (.inl none) τ := by
  unfold m_X6_useUp at hm
  obtain ⟨hg, hm⟩ := grw_e hm
  refine tMt_of (n := 0) rfl (Nat.le_of_ble_eq_true rfl) hg ?_
  intro p e s m below meth c C htab hin
  refine zx_lv [0] [(0, .ref (a0))] rfl ?_
  refine zx_aload_n C dX6_useUp_0 0 rfl ?_
  refine zx_iconst (v := 0) C dX6_useUp_1 (by decide) ?_
  obtain ⟨k1, i2, hm⟩ := ckO_e hm
  refine zx_put (j := 1) (ρ := sI (σ) (a0) 1 (0)) C tC_6 k1 i2 ⟨by decide, Or.inl W_2_43⟩ rfl rfl rfl (sI_ok (fun _ => rfl)) dX6_useUp_2 ?_
  obtain ⟨rfl, rfl⟩ := ret_e hm
  exact zx_vret C rfl rfl rfl dX6_useUp_5
abbrev cX6_octet : ByteArray := prog_8_method_5_code
def yX6_octet : MethodName := ⟨"SyncTree$Tape", "octet", "(I)B"⟩
theorem Y_X6_octet : tY yX6_octet cX6_octet 2 (some .byte) 1 := ⟨W_3_37, W_1_8, ⟨by decide +kernel, by decide +kernel⟩, by decide +kernel⟩
theorem dX6_octet_0 : decode cX6_octet 0 = .ok (.iload_n 1, 1) := by decide +kernel
theorem dX6_octet_1 : decode cX6_octet 1 = .ok (.ifCond .lt 10, 3) := by decide +kernel
theorem dX6_octet_4 : decode cX6_octet 4 = .ok (.iload_n 1, 1) := by decide +kernel
theorem dX6_octet_5 : decode cX6_octet 5 = .ok (.sipush 4000, 3) := by decide +kernel
theorem dX6_octet_8 : decode cX6_octet 8 = .ok (.if_icmp .lt 7, 3) := by decide +kernel
theorem dX6_octet_11 : decode cX6_octet 11 = .ok (.iconst 0, 1) := by decide +kernel
theorem dX6_octet_12 : decode cX6_octet 12 = .ok (.goto 9, 3) := by decide +kernel
theorem dX6_octet_15 : decode cX6_octet 15 = .ok (.aload_n 0, 1) := by decide +kernel
theorem dX6_octet_16 : decode cX6_octet 16 = .ok (.getfield 11, 3) := by decide +kernel
theorem dX6_octet_19 : decode cX6_octet 19 = .ok (.iload_n 1, 1) := by decide +kernel
theorem dX6_octet_20 : decode cX6_octet 20 = .ok (.baload, 1) := by decide +kernel
theorem dX6_octet_21 : decode cX6_octet 21 = .ok (.ireturn, 1) := by decide +kernel
def J_X6_octet_21 (b0 fu : Nat)  (s0 : Int32) (σ : tM) : Option ((Int32) × tM) := ckB (s0) (some (s0, σ))
def J_X6_octet_11 (b0 fu : Nat)   (σ : tM) : Option ((Int32) × tM) := J_X6_octet_21 b0 fu   (0) (σ)
def m_X6_octet (b0 fu : Nat) (a0 : Nat) (p0 : Int32) (σ : tM) : Option ((Int32) × tM) := grw σ (if (p0) < (0) then J_X6_octet_11 b0 fu    (σ) else if (p0) < (4000) then ckO b0 (σ) (a0) 6 (osm (tA (σ) (a0) 0) (fun a6 => ckR b0 (σ) (a6) 1 (fun n10 => ckI (p0) (n10) (J_X6_octet_21 b0 fu   (tI (σ) (a6) ((p0).toNatClampNeg)) (σ))))) else J_X6_octet_11 b0 fu    (σ))
set_option maxRecDepth 100000 in
set_option maxHeartbeats 4000000 in
theorem j_X6_octet_21 {p : Program} {l : Launch} {e : Env} {s : State} {m : MethodId} {args : Array Value} {below : List Frame} {meth : Method} {c : Code} {D : va_G} {aC : Nat → ClassId} {b0 fu : Nat} {σ0 τ : tM} {v : Int32}  (C : tCx p s m args meth c yX6_octet.cls cX6_octet 2 (some .byte) D aC b0 σ0) (htab : ∀ x ∈ c.exceptionTable.toList, False) (hin : meth.name = yX6_octet.name)  {s0 : Int32} {σ : tM} (hm : J_X6_octet_21 b0 fu  s0 σ = some (v, τ)) : tX p l e s m args below meth c 2 0 0 D aC b0 σ0 (.inl (some (.int v))) τ 21 [] [.int (s0)] σ := by
  unfold J_X6_octet_21 at hm
  obtain ⟨h2, hm⟩ := ckB_e hm
  obtain ⟨rfl, rfl⟩ := ret_e hm
  exact zx_zret C rfl h2 rfl rfl dX6_octet_21
set_option maxRecDepth 100000 in
set_option maxHeartbeats 4000000 in
theorem j_X6_octet_11 {p : Program} {l : Launch} {e : Env} {s : State} {m : MethodId} {args : Array Value} {below : List Frame} {meth : Method} {c : Code} {D : va_G} {aC : Nat → ClassId} {b0 fu : Nat} {σ0 τ : tM} {v : Int32}  (C : tCx p s m args meth c yX6_octet.cls cX6_octet 2 (some .byte) D aC b0 σ0) (htab : ∀ x ∈ c.exceptionTable.toList, False) (hin : meth.name = yX6_octet.name)   {σ : tM} (hm : J_X6_octet_11 b0 fu   σ = some (v, τ)) : tX p l e s m args below meth c 2 0 0 D aC b0 σ0 (.inl (some (.int v))) τ 11 [] [] σ := by
  unfold J_X6_octet_11 at hm
  refine zx_iconst (v := 0) C dX6_octet_11 (by decide) ?_
  refine zx_goto C 21 dX6_octet_12 (by decide) ?_
  exact zx_lv [] [] rfl (j_X6_octet_21 C htab hin    hm)
set_option maxRecDepth 100000 in
set_option maxHeartbeats 4000000 in
theorem c_X6_octet {l : Launch} {D : va_G} {aC : Nat → ClassId} {b0 fu : Nat} {a0 : Nat} {p0 : Int32} {σ τ : tM} {v : Int32} (hm : m_X6_octet b0 fu a0 p0 σ = some (v, τ)) : tMt l D aC b0 yX6_octet (Cond.code yX6_octet cX6_octet 2 (some .byte)) 0 0 [.ref (a0), .int (p0)] σ (.inl (some (.int v))) τ := by
  unfold m_X6_octet at hm
  obtain ⟨hg, hm⟩ := grw_e hm
  refine tMt_of (n := 0) rfl (Nat.le_of_ble_eq_true rfl) hg ?_
  intro p e s m below meth c C htab hin
  refine zx_lv [0, 1] [(0, .ref (a0)), (1, .int (p0))] rfl ?_
  refine zx_iload_n C dX6_octet_0 1 rfl ?_
  refine zx_if_lt C 11 dX6_octet_1 (by decide) (fun c1 => ?_) (fun c1 => ?_)
  · replace hm := ip_e hm c1
    exact zx_lv [] [] rfl (j_X6_octet_11 C htab hin    hm)
  · replace hm := in_e hm c1
    refine zx_iload_n C dX6_octet_4 1 rfl ?_
    refine zx_sipush (v := 4000) C dX6_octet_5 (by decide) ?_
    refine zx_icmp_lt C 15 dX6_octet_8 (by decide) (fun c3 => ?_) (fun c3 => ?_)
    · replace hm := ip_e hm c3
      refine zx_aload_n C dX6_octet_15 0 rfl ?_
      obtain ⟨k4, i5, hm⟩ := ckO_e hm
      obtain ⟨a6, h7, hm⟩ := osm_e hm
      refine zx_get (j := 0) C tC_6 k4 i5 ⟨by decide, Or.inl W_2_42⟩ dX6_octet_16 (.ref a6) (rf_s h7) ?_
      refine zx_iload_n C dX6_octet_19 1 rfl ?_
      obtain ⟨n10, k8, i9, hm⟩ := ckR_e hm
      obtain ⟨h11, hm⟩ := ckI_e hm
      refine zx_bald C k8 i9 h11 dX6_octet_20 ?_
      exact zx_lv [] [] rfl (j_X6_octet_21 C htab hin    hm)
    · replace hm := in_e hm c3
      exact zx_lv [] [] rfl (j_X6_octet_11 C htab hin    hm)
abbrev cX6_canBePath : ByteArray := prog_8_method_6_code
def yX6_canBePath : MethodName := ⟨"SyncTree$Tape", "canBePath", "(I)Z"⟩
theorem Y_X6_canBePath : tY yX6_canBePath cX6_canBePath 3 (some .boolean) 1 := ⟨W_3_27, W_1_8, ⟨by decide +kernel, by decide +kernel⟩, by decide +kernel⟩
theorem dX6_canBePath_0 : decode cX6_canBePath 0 = .ok (.iload_n 1, 1) := by decide +kernel
theorem dX6_canBePath_1 : decode cX6_canBePath 1 = .ok (.ifCond .lt 17, 3) := by decide +kernel
theorem dX6_canBePath_4 : decode cX6_canBePath 4 = .ok (.iload_n 1, 1) := by decide +kernel
theorem dX6_canBePath_5 : decode cX6_canBePath 5 = .ok (.bipush 120, 2) := by decide +kernel
theorem dX6_canBePath_7 : decode cX6_canBePath 7 = .ok (.if_icmp .gt 11, 3) := by decide +kernel
theorem dX6_canBePath_10 : decode cX6_canBePath 10 = .ok (.iload_n 1, 1) := by decide +kernel
theorem dX6_canBePath_11 : decode cX6_canBePath 11 = .ok (.aload_n 0, 1) := by decide +kernel
theorem dX6_canBePath_12 : decode cX6_canBePath 12 = .ok (.getfield 15, 3) := by decide +kernel
theorem dX6_canBePath_15 : decode cX6_canBePath 15 = .ok (.if_icmp .le 5, 3) := by decide +kernel
theorem dX6_canBePath_18 : decode cX6_canBePath 18 = .ok (.iconst 0, 1) := by decide +kernel
theorem dX6_canBePath_19 : decode cX6_canBePath 19 = .ok (.ireturn, 1) := by decide +kernel
theorem dX6_canBePath_20 : decode cX6_canBePath 20 = .ok (.iconst 0, 1) := by decide +kernel
theorem dX6_canBePath_21 : decode cX6_canBePath 21 = .ok (.istore_n 2, 1) := by decide +kernel
theorem dX6_canBePath_22 : decode cX6_canBePath 22 = .ok (.iload_n 2, 1) := by decide +kernel
theorem dX6_canBePath_23 : decode cX6_canBePath 23 = .ok (.iload_n 1, 1) := by decide +kernel
theorem dX6_canBePath_24 : decode cX6_canBePath 24 = .ok (.if_icmp .ge 33, 3) := by decide +kernel
theorem dX6_canBePath_27 : decode cX6_canBePath 27 = .ok (.aload_n 0, 1) := by decide +kernel
theorem dX6_canBePath_28 : decode cX6_canBePath 28 = .ok (.getfield 11, 3) := by decide +kernel
theorem dX6_canBePath_31 : decode cX6_canBePath 31 = .ok (.iload_n 2, 1) := by decide +kernel
theorem dX6_canBePath_32 : decode cX6_canBePath 32 = .ok (.baload, 1) := by decide +kernel
theorem dX6_canBePath_33 : decode cX6_canBePath 33 = .ok (.bipush 33, 2) := by decide +kernel
theorem dX6_canBePath_35 : decode cX6_canBePath 35 = .ok (.if_icmp .lt 14, 3) := by decide +kernel
theorem dX6_canBePath_38 : decode cX6_canBePath 38 = .ok (.aload_n 0, 1) := by decide +kernel
theorem dX6_canBePath_39 : decode cX6_canBePath 39 = .ok (.getfield 11, 3) := by decide +kernel
theorem dX6_canBePath_42 : decode cX6_canBePath 42 = .ok (.iload_n 2, 1) := by decide +kernel
theorem dX6_canBePath_43 : decode cX6_canBePath 43 = .ok (.baload, 1) := by decide +kernel
theorem dX6_canBePath_44 : decode cX6_canBePath 44 = .ok (.bipush 126, 2) := by decide +kernel
theorem dX6_canBePath_46 : decode cX6_canBePath 46 = .ok (.if_icmp .le 5, 3) := by decide +kernel
theorem dX6_canBePath_49 : decode cX6_canBePath 49 = .ok (.iconst 0, 1) := by decide +kernel
theorem dX6_canBePath_50 : decode cX6_canBePath 50 = .ok (.ireturn, 1) := by decide +kernel
theorem dX6_canBePath_51 : decode cX6_canBePath 51 = .ok (.iinc 2 1, 3) := by decide +kernel
theorem dX6_canBePath_54 : decode cX6_canBePath 54 = .ok (.goto (-32), 3) := by decide +kernel
theorem dX6_canBePath_57 : decode cX6_canBePath 57 = .ok (.iconst 1, 1) := by decide +kernel
theorem dX6_canBePath_58 : decode cX6_canBePath 58 = .ok (.ireturn, 1) := by decide +kernel
def J_X6_canBePath_18 (b0 fu : Nat)   (σ : tM) : Option ((Int32) × tM) := some (0, σ)
def J_X6_canBePath_49 (b0 fu : Nat)   (σ : tM) : Option ((Int32) × tM) := some (0, σ)
def L_X6_canBePath_22 (b0 fu : Nat)  : Nat → Nat → Int32 → Int32 → tM → Option ((Int32) × tM)
  | 0, _, _, _, _ => none
  | n + 1, x0, x1, x2, σ => ltb (L_X6_canBePath_22 b0 fu  n) (fun rc22 => if (x1) ≤ (x2) then some (1, σ) else ckO b0 (σ) (x0) 6 (osm (tA (σ) (x0) 0) (fun a9 => ckR b0 (σ) (a9) 1 (fun n13 => ckI (x2) (n13) (if (tI (σ) (a9) ((x2).toNatClampNeg)) < (33) then J_X6_canBePath_49 b0 fu    (σ) else osm (tA (σ) (x0) 0) (fun a16 => ckR b0 (σ) (a16) 1 (fun n20 => ckI (x2) (n20) (if (tI (σ) (a16) ((x2).toNatClampNeg)) ≤ (126) then ltb ((x2) + Int32.ofInt 1) (fun y23 => rc22 (x0) (x1) (y23) (σ)) else J_X6_canBePath_49 b0 fu    (σ)))))))))
def m_X6_canBePath (b0 fu : Nat) (a0 : Nat) (p0 : Int32) (σ : tM) : Option ((Int32) × tM) := grw σ (if (p0) < (0) then J_X6_canBePath_18 b0 fu    (σ) else if (120) < (p0) then J_X6_canBePath_18 b0 fu    (σ) else ckO b0 (σ) (a0) 6 (if (p0) ≤ (tI (σ) (a0) 1) then L_X6_canBePath_22 b0 fu  (fu) (a0) (p0) (0) (σ) else J_X6_canBePath_18 b0 fu    (σ)))
set_option maxRecDepth 100000 in
set_option maxHeartbeats 4000000 in
theorem j_X6_canBePath_18 {p : Program} {l : Launch} {e : Env} {s : State} {m : MethodId} {args : Array Value} {below : List Frame} {meth : Method} {c : Code} {D : va_G} {aC : Nat → ClassId} {b0 fu : Nat} {σ0 τ : tM} {v : Int32}  (C : tCx p s m args meth c yX6_canBePath.cls cX6_canBePath 3 (some .boolean) D aC b0 σ0) (htab : ∀ x ∈ c.exceptionTable.toList, False) (hin : meth.name = yX6_canBePath.name)   {σ : tM} (hm : J_X6_canBePath_18 b0 fu   σ = some (v, τ)) : tX p l e s m args below meth c 3 0 0 D aC b0 σ0 (.inl (some (.int v))) τ 18 [] [] σ := by
  unfold J_X6_canBePath_18 at hm
  refine zx_iconst (v := 0) C dX6_canBePath_18 (by decide) ?_
  obtain ⟨rfl, rfl⟩ := ret_e hm
  exact zx_zret C rfl (by decide) rfl rfl dX6_canBePath_19
set_option maxRecDepth 100000 in
set_option maxHeartbeats 4000000 in
theorem j_X6_canBePath_49 {p : Program} {l : Launch} {e : Env} {s : State} {m : MethodId} {args : Array Value} {below : List Frame} {meth : Method} {c : Code} {D : va_G} {aC : Nat → ClassId} {b0 fu : Nat} {σ0 τ : tM} {v : Int32}  (C : tCx p s m args meth c yX6_canBePath.cls cX6_canBePath 3 (some .boolean) D aC b0 σ0) (htab : ∀ x ∈ c.exceptionTable.toList, False) (hin : meth.name = yX6_canBePath.name)   {σ : tM} (hm : J_X6_canBePath_49 b0 fu   σ = some (v, τ)) : tX p l e s m args below meth c 3 0 0 D aC b0 σ0 (.inl (some (.int v))) τ 49 [] [] σ := by
  unfold J_X6_canBePath_49 at hm
  refine zx_iconst (v := 0) C dX6_canBePath_49 (by decide) ?_
  obtain ⟨rfl, rfl⟩ := ret_e hm
  exact zx_zret C rfl (by decide) rfl rfl dX6_canBePath_50
set_option maxRecDepth 100000 in
set_option maxHeartbeats 4000000 in
theorem l_X6_canBePath_22 {p : Program} {l : Launch} {e : Env} {s : State} {m : MethodId} {args : Array Value} {below : List Frame} {meth : Method} {c : Code} {D : va_G} {aC : Nat → ClassId} {b0 fu : Nat} {σ0 τ : tM} {v : Int32}  (C : tCx p s m args meth c yX6_canBePath.cls cX6_canBePath 3 (some .boolean) D aC b0 σ0) (htab : ∀ x ∈ c.exceptionTable.toList, False) (hin : meth.name = yX6_canBePath.name)  : ∀ (n : Nat) (x0 : Nat) (x1 : Int32) (x2 : Int32) (σ : tM), L_X6_canBePath_22 b0 fu  n x0 x1 x2 σ = some (v, τ) → tX p l e s m args below meth c 3 0 0 D aC b0 σ0 (.inl (some (.int v))) τ 22 [(0, .ref (x0)), (1, .int (x1)), (2, .int (x2))] [] σ := by
  intro n
  induction n with
  | zero => intro x0 x1 x2 σ hm; unfold L_X6_canBePath_22 at hm; cases hm
  | succ n ih =>
    intro x0 x1 x2 σ hm
    unfold L_X6_canBePath_22 at hm
    obtain ⟨rc22, hrc⟩ : ∃ z, z = L_X6_canBePath_22 b0 fu  n := ⟨_, rfl⟩
    replace hm := ltb_e hm hrc
    rw [← hrc] at ih
    have hrc22 := ih
    clear ih hrc
    refine zx_iload_n C dX6_canBePath_22 2 rfl ?_
    refine zx_iload_n C dX6_canBePath_23 1 rfl ?_
    refine zx_icmp_ge C 57 dX6_canBePath_24 (by decide) (fun c6 => ?_) (fun c6 => ?_)
    · replace hm := ip_e hm c6
      refine zx_iconst (v := 1) C dX6_canBePath_57 (by decide) ?_
      obtain ⟨rfl, rfl⟩ := ret_e hm
      exact zx_zret C rfl (by decide) rfl rfl dX6_canBePath_58
    · replace hm := in_e hm c6
      refine zx_aload_n C dX6_canBePath_27 0 rfl ?_
      obtain ⟨k7, i8, hm⟩ := ckO_e hm
      obtain ⟨a9, h10, hm⟩ := osm_e hm
      refine zx_get (j := 0) C tC_6 k7 i8 ⟨by decide, Or.inl W_2_42⟩ dX6_canBePath_28 (.ref a9) (rf_s h10) ?_
      refine zx_iload_n C dX6_canBePath_31 2 rfl ?_
      obtain ⟨n13, k11, i12, hm⟩ := ckR_e hm
      obtain ⟨h14, hm⟩ := ckI_e hm
      refine zx_bald C k11 i12 h14 dX6_canBePath_32 ?_
      refine zx_bipush (v := 33) C dX6_canBePath_33 (by decide) ?_
      refine zx_icmp_lt C 49 dX6_canBePath_35 (by decide) (fun c15 => ?_) (fun c15 => ?_)
      · replace hm := ip_e hm c15
        exact zx_lv [] [] rfl (j_X6_canBePath_49 C htab hin    hm)
      · replace hm := in_e hm c15
        refine zx_aload_n C dX6_canBePath_38 0 rfl ?_
        obtain ⟨a16, h17, hm⟩ := osm_e hm
        refine zx_get (j := 0) C tC_6 k7 i8 ⟨by decide, Or.inl W_2_42⟩ dX6_canBePath_39 (.ref a16) (rf_s h17) ?_
        refine zx_iload_n C dX6_canBePath_42 2 rfl ?_
        obtain ⟨n20, k18, i19, hm⟩ := ckR_e hm
        obtain ⟨h21, hm⟩ := ckI_e hm
        refine zx_bald C k18 i19 h21 dX6_canBePath_43 ?_
        refine zx_bipush (v := 126) C dX6_canBePath_44 (by decide) ?_
        refine zx_icmp_le C 51 dX6_canBePath_46 (by decide) (fun c22 => ?_) (fun c22 => ?_)
        · replace hm := ip_e hm c22
          obtain ⟨y23, hy23⟩ : ∃ z : Int32, z = (x2) + Int32.ofInt 1 := ⟨_, rfl⟩
          replace hm := ltb_e hm hy23
          refine zx_iinc C [(2, .int (y23)), (0, .ref (x0)), (1, .int (x1))] dX6_canBePath_51 2 rfl hy23.symm (by decide) rfl ?_
          refine zx_goto C 22 dX6_canBePath_54 (by decide) ?_
          exact zx_lv [1, 2, 0] [(0, .ref (x0)), (1, .int (x1)), (2, .int (y23))] rfl (hrc22 _ _ _ _ hm)
        · replace hm := in_e hm c22
          exact zx_lv [] [] rfl (j_X6_canBePath_49 C htab hin    hm)
set_option maxRecDepth 100000 in
set_option maxHeartbeats 4000000 in
theorem c_X6_canBePath {l : Launch} {D : va_G} {aC : Nat → ClassId} {b0 fu : Nat} {a0 : Nat} {p0 : Int32} {σ τ : tM} {v : Int32} (hm : m_X6_canBePath b0 fu a0 p0 σ = some (v, τ)) : tMt l D aC b0 yX6_canBePath (Cond.code yX6_canBePath cX6_canBePath 3 (some .boolean)) 0 0 [.ref (a0), .int (p0)] σ (.inl (some (.int v))) τ := by
  unfold m_X6_canBePath at hm
  obtain ⟨hg, hm⟩ := grw_e hm
  refine tMt_of (n := 0) rfl (Nat.le_of_ble_eq_true rfl) hg ?_
  intro p e s m below meth c C htab hin
  refine zx_lv [0, 1] [(0, .ref (a0)), (1, .int (p0))] rfl ?_
  refine zx_iload_n C dX6_canBePath_0 1 rfl ?_
  refine zx_if_lt C 18 dX6_canBePath_1 (by decide) (fun c1 => ?_) (fun c1 => ?_)
  · replace hm := ip_e hm c1
    exact zx_lv [] [] rfl (j_X6_canBePath_18 C htab hin    hm)
  · replace hm := in_e hm c1
    refine zx_iload_n C dX6_canBePath_4 1 rfl ?_
    refine zx_bipush (v := 120) C dX6_canBePath_5 (by decide) ?_
    refine zx_icmp_gt C 18 dX6_canBePath_7 (by decide) (fun c2 => ?_) (fun c2 => ?_)
    · replace hm := ip_e hm c2
      exact zx_lv [] [] rfl (j_X6_canBePath_18 C htab hin    hm)
    · replace hm := in_e hm c2
      refine zx_iload_n C dX6_canBePath_10 1 rfl ?_
      refine zx_aload_n C dX6_canBePath_11 0 rfl ?_
      obtain ⟨k3, i4, hm⟩ := ckO_e hm
      refine zx_get (j := 1) C tC_6 k3 i4 ⟨by decide, Or.inl W_2_43⟩ dX6_canBePath_12 (.int (tI (σ) (a0) 1)) rfl ?_
      refine zx_icmp_le C 20 dX6_canBePath_15 (by decide) (fun c5 => ?_) (fun c5 => ?_)
      · replace hm := ip_e hm c5
        refine zx_iconst (v := 0) C dX6_canBePath_20 (by decide) ?_
        refine zx_istore_n C [(2, .int (0)), (0, .ref (a0)), (1, .int (p0))] dX6_canBePath_21 rfl (by decide) rfl ?_
        exact zx_lv [1, 2, 0] [(0, .ref (a0)), (1, .int (p0)), (2, .int (0))] rfl (l_X6_canBePath_22 C htab hin  _ _ _ _ _ hm)
      · replace hm := in_e hm c5
        exact zx_lv [] [] rfl (j_X6_canBePath_18 C htab hin    hm)
