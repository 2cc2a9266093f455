abbrev cX12_path : ByteArray := prog_13_method_69_code
def yX12_path : MethodName := ⟨"SyncTreeModel", "path", "(II)I"⟩
theorem Y_X12_path : tY yX12_path cX12_path 5 (some .int) 2 := ⟨W_7_168, W_1_14, ⟨by decide +kernel, by decide +kernel⟩, by decide +kernel⟩
theorem dX12_path_0 : decode cX12_path 0 = .ok (.aload_n 0, 1) := by decide +kernel
theorem dX12_path_1 : decode cX12_path 1 = .ok (.iconst 0, 1) := by decide +kernel
theorem dX12_path_2 : decode cX12_path 2 = .ok (.putfield 3, 3) := by decide +kernel
theorem dX12_path_5 : decode cX12_path 5 = .ok (.aload_n 0, 1) := by decide +kernel
theorem dX12_path_6 : decode cX12_path 6 = .ok (.getfield 400, 3) := by decide +kernel
theorem dX12_path_9 : decode cX12_path 9 = .ok (.istore_n 3, 1) := by decide +kernel
theorem dX12_path_10 : decode cX12_path 10 = .ok (.aload_n 0, 1) := by decide +kernel
theorem dX12_path_11 : decode cX12_path 11 = .ok (.iconst 0, 1) := by decide +kernel
theorem dX12_path_12 : decode cX12_path 12 = .ok (.putfield 400, 3) := by decide +kernel
theorem dX12_path_15 : decode cX12_path 15 = .ok (.iload_n 1, 1) := by decide +kernel
theorem dX12_path_16 : decode cX12_path 16 = .ok (.ifCond .lt 23, 3) := by decide +kernel
theorem dX12_path_19 : decode cX12_path 19 = .ok (.iload_n 1, 1) := by decide +kernel
theorem dX12_path_20 : decode cX12_path 20 = .ok (.iconst 1, 1) := by decide +kernel
theorem dX12_path_21 : decode cX12_path 21 = .ok (.if_icmp .gt 18, 3) := by decide +kernel
theorem dX12_path_24 : decode cX12_path 24 = .ok (.iload_n 2, 1) := by decide +kernel
theorem dX12_path_25 : decode cX12_path 25 = .ok (.ifCond .lt 14, 3) := by decide +kernel
theorem dX12_path_28 : decode cX12_path 28 = .ok (.iload_n 2, 1) := by decide +kernel
theorem dX12_path_29 : decode cX12_path 29 = .ok (.bipush 120, 2) := by decide +kernel
theorem dX12_path_31 : decode cX12_path 31 = .ok (.if_icmp .gt 8, 3) := by decide +kernel
theorem dX12_path_34 : decode cX12_path 34 = .ok (.iload_n 2, 1) := by decide +kernel
theorem dX12_path_35 : decode cX12_path 35 = .ok (.iload_n 3, 1) := by decide +kernel
theorem dX12_path_36 : decode cX12_path 36 = .ok (.if_icmp .le 6, 3) := by decide +kernel
theorem dX12_path_39 : decode cX12_path 39 = .ok (.bipush (-9), 2) := by decide +kernel
theorem dX12_path_41 : decode cX12_path 41 = .ok (.ireturn, 1) := by decide +kernel
theorem dX12_path_42 : decode cX12_path 42 = .ok (.iconst 0, 1) := by decide +kernel
theorem dX12_path_43 : decode cX12_path 43 = .ok (.istore 4, 2) := by decide +kernel
theorem dX12_path_45 : decode cX12_path 45 = .ok (.iload 4, 2) := by decide +kernel
theorem dX12_path_47 : decode cX12_path 47 = .ok (.iload_n 2, 1) := by decide +kernel
theorem dX12_path_48 : decode cX12_path 48 = .ok (.if_icmp .ge 36, 3) := by decide +kernel
theorem dX12_path_51 : decode cX12_path 51 = .ok (.aload_n 0, 1) := by decide +kernel
theorem dX12_path_52 : decode cX12_path 52 = .ok (.getfield 391, 3) := by decide +kernel
theorem dX12_path_55 : decode cX12_path 55 = .ok (.iload 4, 2) := by decide +kernel
theorem dX12_path_57 : decode cX12_path 57 = .ok (.baload, 1) := by decide +kernel
theorem dX12_path_58 : decode cX12_path 58 = .ok (.bipush 33, 2) := by decide +kernel
theorem dX12_path_60 : decode cX12_path 60 = .ok (.if_icmp .lt 15, 3) := by decide +kernel
theorem dX12_path_63 : decode cX12_path 63 = .ok (.aload_n 0, 1) := by decide +kernel
theorem dX12_path_64 : decode cX12_path 64 = .ok (.getfield 391, 3) := by decide +kernel
theorem dX12_path_67 : decode cX12_path 67 = .ok (.iload 4, 2) := by decide +kernel
theorem dX12_path_69 : decode cX12_path 69 = .ok (.baload, 1) := by decide +kernel
theorem dX12_path_70 : decode cX12_path 70 = .ok (.bipush 126, 2) := by decide +kernel
theorem dX12_path_72 : decode cX12_path 72 = .ok (.if_icmp .le 6, 3) := by decide +kernel
theorem dX12_path_75 : decode cX12_path 75 = .ok (.bipush (-9), 2) := by decide +kernel
theorem dX12_path_77 : decode cX12_path 77 = .ok (.ireturn, 1) := by decide +kernel
theorem dX12_path_78 : decode cX12_path 78 = .ok (.iinc 4 1, 3) := by decide +kernel
theorem dX12_path_81 : decode cX12_path 81 = .ok (.goto (-36), 3) := by decide +kernel
theorem dX12_path_84 : decode cX12_path 84 = .ok (.aload_n 0, 1) := by decide +kernel
theorem dX12_path_85 : decode cX12_path 85 = .ok (.getfield 391, 3) := by decide +kernel
theorem dX12_path_88 : decode cX12_path 88 = .ok (.iconst 0, 1) := by decide +kernel
theorem dX12_path_89 : decode cX12_path 89 = .ok (.aload_n 0, 1) := by decide +kernel
theorem dX12_path_90 : decode cX12_path 90 = .ok (.getfield 323, 3) := by decide +kernel
theorem dX12_path_93 : decode cX12_path 93 = .ok (.iload_n 1, 1) := by decide +kernel
theorem dX12_path_94 : decode cX12_path 94 = .ok (.aaload, 1) := by decide +kernel
theorem dX12_path_95 : decode cX12_path 95 = .ok (.iconst 0, 1) := by decide +kernel
theorem dX12_path_96 : decode cX12_path 96 = .ok (.iload_n 2, 1) := by decide +kernel
theorem dX12_path_97 : decode cX12_path 97 = .ok (.invokestatic 7, 3) := by decide +kernel
theorem dX12_path_100 : decode cX12_path 100 = .ok (.aload_n 0, 1) := by decide +kernel
theorem dX12_path_101 : decode cX12_path 101 = .ok (.getfield 346, 3) := by decide +kernel
theorem dX12_path_104 : decode cX12_path 104 = .ok (.iload_n 1, 1) := by decide +kernel
theorem dX12_path_105 : decode cX12_path 105 = .ok (.iload_n 2, 1) := by decide +kernel
theorem dX12_path_106 : decode cX12_path 106 = .ok (.iastore, 1) := by decide +kernel
theorem dX12_path_107 : decode cX12_path 107 = .ok (.iload_n 2, 1) := by decide +kernel
theorem dX12_path_108 : decode cX12_path 108 = .ok (.ireturn, 1) := by decide +kernel
def J_X12_path_39 (b0 fu : Nat)   (σ : tM) : Option ((Int32) × tM) := some ((-9), σ)
def J_X12_path_75 (b0 fu : Nat)   (σ : tM) : Option ((Int32) × tM) := some ((-9), σ)
def L_X12_path_45 (b0 fu : Nat)  : Nat → Nat → Int32 → Int32 → Int32 → tM → Option ((Int32) × tM)
  | 0, _, _, _, _, _ => none
  | n + 1, x0, x1, x2, x4, σ => ltb (L_X12_path_45 b0 fu  n) (fun rc45 => if (x2) ≤ (x4) then ckO b0 (σ) (x0) 11 (osm (tA (σ) (x0) 56) (fun a12 => osm (tA (σ) (x0) 47) (fun a14 => ckR b0 (σ) (a14) 5 (fun n18 => ckI (x1) (n18) (osm (tA (σ) (a14) ((x1).toNatClampNeg)) (fun a20 => ckR b0 (σ) (a12) 1 (fun n24 => ckR b0 (σ) (a20) 1 (fun n27 => ckC (0) (0) (x2) (n24) (n27) (ckF (tI (σ) (a12)) (0) (x2) (ltb (sIr (σ) (a20) (va_cpy (tI (σ) (a12)) (tI (σ) (a20)) (((0 : Int32)).toNatClampNeg) (((0 : Int32)).toNatClampNeg) ((x2).toNatClampNeg))) (fun ρ29 => osm (tA (ρ29) (x0) 48) (fun a38 => ckR b0 (ρ29) (a38) 0 (fun n42 => ckI (x1) (n42) (some (x2, sI (ρ29) (a38) ((x1).toNatClampNeg) (x2)))))))))))))))) else ckO b0 (σ) (x0) 11 (osm (tA (σ) (x0) 56) (fun a47 => ckR b0 (σ) (a47) 1 (fun n51 => ckI (x4) (n51) (if (tI (σ) (a47) ((x4).toNatClampNeg)) < (33) then J_X12_path_75 b0 fu    (σ) else osm (tA (σ) (x0) 56) (fun a54 => ckR b0 (σ) (a54) 1 (fun n58 => ckI (x4) (n58) (if (tI (σ) (a54) ((x4).toNatClampNeg)) ≤ (126) then ltb ((x4) + Int32.ofInt 1) (fun y61 => rc45 (x0) (x1) (x2) (y61) (σ)) else J_X12_path_75 b0 fu    (σ)))))))))
def m_X12_path (b0 fu : Nat) (a0 : Nat) (p0 : Int32) (p1 : Int32) (σ : tM) : Option ((Int32) × tM) := grw σ (ckO b0 (σ) (a0) 11 (ltb ((tI (sI (σ) (a0) 0 (0)) (a0) 57 : Int32)) (fun y3 => if (p0) < (0) then J_X12_path_39 b0 fu    (sI (sI (σ) (a0) 0 (0)) (a0) 57 (0)) else if (1) < (p0) then J_X12_path_39 b0 fu    (sI (sI (σ) (a0) 0 (0)) (a0) 57 (0)) else if (p1) < (0) then J_X12_path_39 b0 fu    (sI (sI (σ) (a0) 0 (0)) (a0) 57 (0)) else if (120) < (p1) then J_X12_path_39 b0 fu    (sI (sI (σ) (a0) 0 (0)) (a0) 57 (0)) else if (p1) ≤ (y3) then L_X12_path_45 b0 fu  (fu) (a0) (p0) (p1) (0) (sI (sI (σ) (a0) 0 (0)) (a0) 57 (0)) else J_X12_path_39 b0 fu    (sI (sI (σ) (a0) 0 (0)) (a0) 57 (0)))))
set_option maxRecDepth 100000 in
set_option maxHeartbeats 1000000 in
theorem j_X12_path_39 {p : Program} {l : Launch} {e : Env} {s : State} {m : MethodId} {args : Array Value} {below : List Frame} {meth : Method} {c : Code} {D : va_G} {aC : Nat → ClassId} {b0 fu : Nat} {σ0 τ : tM} {v : Int32}  (C : tCx p l s m args meth c yX12_path.cls cX12_path 5 (some .int) D aC b0 σ0) (htab : ∀ x ∈ c.exceptionTable.toList, False) (hin : meth.name = yX12_path.name)   {σ : tM} (hm : J_X12_path_39 b0 fu   σ = some (v, τ)) : tX p l e s m args below meth c 5 1 26 D aC b0 σ0 (.inl (some (.int v))) τ 39 [] [] σ := by
  unfold J_X12_path_39 at hm
  refine zx_bipush (v := (-9)) C dX12_path_39 (by decide) ?_
  obtain ⟨rfl, rfl⟩ := ret_e hm
  exact zx_iret C rfl rfl rfl dX12_path_41
set_option maxRecDepth 100000 in
set_option maxHeartbeats 1000000 in
theorem j_X12_path_75 {p : Program} {l : Launch} {e : Env} {s : State} {m : MethodId} {args : Array Value} {below : List Frame} {meth : Method} {c : Code} {D : va_G} {aC : Nat → ClassId} {b0 fu : Nat} {σ0 τ : tM} {v : Int32}  (C : tCx p l s m args meth c yX12_path.cls cX12_path 5 (some .int) D aC b0 σ0) (htab : ∀ x ∈ c.exceptionTable.toList, False) (hin : meth.name = yX12_path.name)   {σ : tM} (hm : J_X12_path_75 b0 fu   σ = some (v, τ)) : tX p l e s m args below meth c 5 1 26 D aC b0 σ0 (.inl (some (.int v))) τ 75 [] [] σ := by
  unfold J_X12_path_75 at hm
  refine zx_bipush (v := (-9)) C dX12_path_75 (by decide) ?_
  obtain ⟨rfl, rfl⟩ := ret_e hm
  exact zx_iret C rfl rfl rfl dX12_path_77
set_option maxRecDepth 100000 in
set_option maxHeartbeats 1000000 in
theorem l_X12_path_45 {p : Program} {l : Launch} {e : Env} {s : State} {m : MethodId} {args : Array Value} {below : List Frame} {meth : Method} {c : Code} {D : va_G} {aC : Nat → ClassId} {b0 fu : Nat} {σ0 τ : tM} {v : Int32}  (C : tCx p l s m args meth c yX12_path.cls cX12_path 5 (some .int) D aC b0 σ0) (htab : ∀ x ∈ c.exceptionTable.toList, False) (hin : meth.name = yX12_path.name)  : ∀ (n : Nat) (x0 : Nat) (x1 : Int32) (x2 : Int32) (x4 : Int32) (σ : tM), L_X12_path_45 b0 fu  n x0 x1 x2 x4 σ = some (v, τ) → tX p l e s m args below meth c 5 1 26 D aC b0 σ0 (.inl (some (.int v))) τ 45 [(0, .ref (x0)), (1, .int (x1)), (2, .int (x2)), (4, .int (x4))] [] σ := by
  intro n
  induction n with
  | zero => intro x0 x1 x2 x4 σ hm; unfold L_X12_path_45 at hm; cases hm
  | succ n ih =>
    intro x0 x1 x2 x4 σ hm
    unfold L_X12_path_45 at hm
    obtain ⟨rc45, hrc⟩ : ∃ z, z = L_X12_path_45 b0 fu  n := ⟨_, rfl⟩
    replace hm := ltb_e hm hrc
    rw [← hrc] at ih
    have hrc45 := ih
    clear ih hrc
    refine zx_iload C dX12_path_45 3 rfl ?_
    refine zx_iload_n C dX12_path_47 2 rfl ?_
    refine zx_icmp_ge C 84 dX12_path_48 (by decide) (fun c9 => ?_) (fun c9 => ?_)
    · replace hm := ip_e hm c9
      refine zx_aload_n C dX12_path_84 0 rfl ?_
      obtain ⟨k10, i11, hm⟩ := ckO_e hm
      obtain ⟨a12, h13, hm⟩ := osm_e hm
      refine zx_get (j := 56) C tC_11 k10 i11 ⟨by decide, Or.inl W_7_35⟩ dX12_path_85 (.ref a12) (rf_s h13) ?_
      refine zx_iconst (v := 0) C dX12_path_88 (by decide) ?_
      refine zx_aload_n C dX12_path_89 0 rfl ?_
      obtain ⟨a14, h15, hm⟩ := osm_e hm
      refine zx_get (j := 47) C tC_11 k10 i11 ⟨by decide, Or.inl W_7_26⟩ dX12_path_90 (.ref a14) (rf_s h15) ?_
      refine zx_iload_n C dX12_path_93 1 rfl ?_
      obtain ⟨n18, k16, i17, hm⟩ := ckR_e hm
      obtain ⟨h19, hm⟩ := ckI_e hm
      obtain ⟨a20, h21, hm⟩ := osm_e hm
      refine zx_aald5 C k16 i17 h19 dX12_path_94 (.ref a20) (rf_s h21) ?_
      refine zx_iconst (v := 0) C dX12_path_95 (by decide) ?_
      refine zx_iload_n C dX12_path_96 2 rfl ?_
      obtain ⟨n24, k22, i23, hm⟩ := ckR_e hm
      obtain ⟨n27, k25, i26, hm⟩ := ckR_e hm
      obtain ⟨h28, hm⟩ := ckC_e hm
      obtain ⟨h44, hm⟩ := ckF_e hm
      refine zx_copyB (σ := σ) C W_7_169 W_2_135 W_2_134 W_1_11 k22 i23 k25 i26 h28 h44 (by decide) (by decide) (Nat.le_of_ble_eq_true rfl) dX12_path_97 ?_
      refine zx_mem (fun ρ29 hρ29 => ?_)
      replace hm := ltb_e hm hρ29
      have k30 : tk ρ29 (x0) = .inl 11 := by rw [hρ29]; exact k10
      have i31 : tIn b0 ρ29 (x0) := by rw [hρ29]; exact i11
      have k32 : tk ρ29 (a14) = .inr (5, n18) := by rw [hρ29]; exact k16
      have i33 : tIn b0 ρ29 (a14) := by rw [hρ29]; exact i17
      have k34 : tk ρ29 (a12) = .inr (1, n24) := by rw [hρ29]; exact k22
      have i35 : tIn b0 ρ29 (a12) := by rw [hρ29]; exact i23
      have k36 : tk ρ29 (a20) = .inr (1, n27) := by rw [hρ29]; exact k25
      have i37 : tIn b0 ρ29 (a20) := by rw [hρ29]; exact i26
      refine zx_aload_n C dX12_path_100 0 rfl ?_
      obtain ⟨a38, h39, hm⟩ := osm_e hm
      refine zx_get (j := 48) C tC_11 k30 i31 ⟨by decide, Or.inl W_7_27⟩ dX12_path_101 (.ref a38) (rf_s h39) ?_
      refine zx_iload_n C dX12_path_104 1 rfl ?_
      refine zx_iload_n C dX12_path_105 2 rfl ?_
      obtain ⟨n42, k40, i41, hm⟩ := ckR_e hm
      obtain ⟨h43, hm⟩ := ckI_e hm
      refine zx_iast C k40 i41 h43 dX12_path_106 ?_
      refine zx_iload_n C dX12_path_107 2 rfl ?_
      obtain ⟨rfl, rfl⟩ := ret_e hm
      exact zx_iret C rfl rfl rfl dX12_path_108
    · replace hm := in_e hm c9
      refine zx_aload_n C dX12_path_51 0 rfl ?_
      obtain ⟨k45, i46, hm⟩ := ckO_e hm
      obtain ⟨a47, h48, hm⟩ := osm_e hm
      refine zx_get (j := 56) C tC_11 k45 i46 ⟨by decide, Or.inl W_7_35⟩ dX12_path_52 (.ref a47) (rf_s h48) ?_
      refine zx_iload C dX12_path_55 3 rfl ?_
      obtain ⟨n51, k49, i50, hm⟩ := ckR_e hm
      obtain ⟨h52, hm⟩ := ckI_e hm
      refine zx_bald C k49 i50 h52 dX12_path_57 ?_
      refine zx_bipush (v := 33) C dX12_path_58 (by decide) ?_
      refine zx_icmp_lt C 75 dX12_path_60 (by decide) (fun c53 => ?_) (fun c53 => ?_)
      · replace hm := ip_e hm c53
        exact zx_lv [] [] rfl (j_X12_path_75 C htab hin    hm)
      · replace hm := in_e hm c53
        refine zx_aload_n C dX12_path_63 0 rfl ?_
        obtain ⟨a54, h55, hm⟩ := osm_e hm
        refine zx_get (j := 56) C tC_11 k45 i46 ⟨by decide, Or.inl W_7_35⟩ dX12_path_64 (.ref a54) (rf_s h55) ?_
        refine zx_iload C dX12_path_67 3 rfl ?_
        obtain ⟨n58, k56, i57, hm⟩ := ckR_e hm
        obtain ⟨h59, hm⟩ := ckI_e hm
        refine zx_bald C k56 i57 h59 dX12_path_69 ?_
        refine zx_bipush (v := 126) C dX12_path_70 (by decide) ?_
        refine zx_icmp_le C 78 dX12_path_72 (by decide) (fun c60 => ?_) (fun c60 => ?_)
        · replace hm := ip_e hm c60
          obtain ⟨y61, hy61⟩ : ∃ z : Int32, z = (x4) + Int32.ofInt 1 := ⟨_, rfl⟩
          replace hm := ltb_e hm hy61
          refine zx_iinc C [(4, .int (y61)), (0, .ref (x0)), (1, .int (x1)), (2, .int (x2))] dX12_path_78 3 rfl hy61.symm (by decide) rfl ?_
          refine zx_goto C 45 dX12_path_81 (by decide) ?_
          exact zx_lv [1, 2, 3, 0] [(0, .ref (x0)), (1, .int (x1)), (2, .int (x2)), (4, .int (y61))] rfl (hrc45 _ _ _ _ _ hm)
        · replace hm := in_e hm c60
          exact zx_lv [] [] rfl (j_X12_path_75 C htab hin    hm)
set_option maxRecDepth 100000 in
set_option maxHeartbeats 1000000 in
theorem c_X12_path {l : Launch} {D : va_G} {aC : Nat → ClassId} {b0 fu : Nat} {a0 : Nat} {p0 : Int32} {p1 : Int32} {σ τ : tM} {v : Int32} (hm : m_X12_path b0 fu a0 p0 p1 σ = some (v, τ)) : tMt l D aC b0 yX12_path (Cond.code yX12_path cX12_path 5 (some .int)) 1 26 [.ref (a0), .int (p0), .int (p1)] σ (.inl (some (.int v))) τ := by
  unfold m_X12_path at hm
  obtain ⟨hg, hm⟩ := grw_e hm
  refine tMt_of (n := 0) rfl (Nat.le_of_ble_eq_true rfl) hg ?_
  intro p e s m below meth c C htab hin
  refine zx_lv [0, 1, 2] [(0, .ref (a0)), (1, .int (p0)), (2, .int (p1))] rfl ?_
  refine zx_aload_n C dX12_path_0 0 rfl ?_
  refine zx_iconst (v := 0) C dX12_path_1 (by decide) ?_
  obtain ⟨k1, i2, hm⟩ := ckO_e hm
  refine zx_put (j := 0) (ρ := sI (σ) (a0) 0 (0)) C tC_11 k1 i2 ⟨by decide, Or.inl W_6_220⟩ rfl rfl rfl (sI_ok (fun _ => rfl)) dX12_path_2 ?_
  refine zx_aload_n C dX12_path_5 0 rfl ?_
  refine zx_get (j := 57) C tC_11 k1 i2 ⟨by decide, Or.inl W_7_36⟩ dX12_path_6 (.int (tI (sI (σ) (a0) 0 (0)) (a0) 57)) rfl ?_
  refine zx_topi (fun y3 hy3 => ?_)
  replace hm := ltb_e hm hy3
  refine zx_istore_n C [(3, .int (y3)), (0, .ref (a0)), (1, .int (p0)), (2, .int (p1))] dX12_path_9 rfl (by decide) rfl ?_
  refine zx_aload_n C dX12_path_10 1 rfl ?_
  refine zx_iconst (v := 0) C dX12_path_11 (by decide) ?_
  refine zx_put (j := 57) (ρ := sI (sI (σ) (a0) 0 (0)) (a0) 57 (0)) C tC_11 k1 i2 ⟨by decide, Or.inl W_7_36⟩ rfl rfl rfl (sI_ok (fun _ => rfl)) dX12_path_12 ?_
  refine zx_iload_n C dX12_path_15 2 rfl ?_
  refine zx_if_lt C 39 dX12_path_16 (by decide) (fun c4 => ?_) (fun c4 => ?_)
  · replace hm := ip_e hm c4
    exact zx_lv [] [] rfl (j_X12_path_39 C htab hin    hm)
  · replace hm := in_e hm c4
    refine zx_iload_n C dX12_path_19 2 rfl ?_
    refine zx_iconst (v := 1) C dX12_path_20 (by decide) ?_
    refine zx_icmp_gt C 39 dX12_path_21 (by decide) (fun c5 => ?_) (fun c5 => ?_)
    · replace hm := ip_e hm c5
      exact zx_lv [] [] rfl (j_X12_path_39 C htab hin    hm)
    · replace hm := in_e hm c5
      refine zx_iload_n C dX12_path_24 3 rfl ?_
      refine zx_if_lt C 39 dX12_path_25 (by decide) (fun c6 => ?_) (fun c6 => ?_)
      · replace hm := ip_e hm c6
        exact zx_lv [] [] rfl (j_X12_path_39 C htab hin    hm)
      · replace hm := in_e hm c6
        refine zx_iload_n C dX12_path_28 3 rfl ?_
        refine zx_bipush (v := 120) C dX12_path_29 (by decide) ?_
        refine zx_icmp_gt C 39 dX12_path_31 (by decide) (fun c7 => ?_) (fun c7 => ?_)
        · replace hm := ip_e hm c7
          exact zx_lv [] [] rfl (j_X12_path_39 C htab hin    hm)
        · replace hm := in_e hm c7
          refine zx_iload_n C dX12_path_34 3 rfl ?_
          refine zx_iload_n C dX12_path_35 0 rfl ?_
          refine zx_icmp_le C 42 dX12_path_36 (by decide) (fun c8 => ?_) (fun c8 => ?_)
          · replace hm := ip_e hm c8
            refine zx_iconst (v := 0) C dX12_path_42 (by decide) ?_
            refine zx_istore C [(4, .int (0)), (3, .int (y3)), (0, .ref (a0)), (1, .int (p0)), (2, .int (p1))] dX12_path_43 (by decide) rfl ?_
            exact zx_lv [2, 3, 4, 0] [(0, .ref (a0)), (1, .int (p0)), (2, .int (p1)), (4, .int (0))] rfl (l_X12_path_45 C htab hin  _ _ _ _ _ _ hm)
          · replace hm := in_e hm c8
            exact zx_lv [] [] rfl (j_X12_path_39 C htab hin    hm)
abbrev cX12_up : ByteArray := prog_13_method_70_code
def yX12_up : MethodName := ⟨"SyncTreeModel", "up", "()V"⟩
theorem Y_X12_up : tY yX12_up cX12_up 1 none 0 := ⟨W_7_182, W_1_14, ⟨by decide +kernel, by decide +kernel⟩, by decide +kernel⟩
theorem dX12_up_0 : decode cX12_up 0 = .ok (.aload_n 0, 1) := by decide +kernel
theorem dX12_up_1 : decode cX12_up 1 = .ok (.getfield 58, 3) := by decide +kernel
theorem dX12_up_4 : decode cX12_up 4 = .ok (.ifCond .ne 7, 3) := by decide +kernel
theorem dX12_up_7 : decode cX12_up 7 = .ok (.getstatic 51, 3) := by decide +kernel
theorem dX12_up_10 : decode cX12_up 10 = .ok (.athrow, 1) := by decide +kernel
theorem dX12_up_11 : decode cX12_up 11 = .ok (.return_, 1) := by decide +kernel
def m_X12_up (b0 fu : Nat) (a0 : Nat) (σ : tM) : Option (((Unit) ⊕ Unit) × tM) := grw σ (ckO b0 (σ) (a0) 11 (if (tI (σ) (a0) 18) = (0) then some (.inr (), σ) else some (.inl (()), σ)))
set_option maxRecDepth 100000 in
set_option maxHeartbeats 1000000 in
theorem c_X12_up {l : Launch} {D : va_G} {aC : Nat → ClassId} {b0 fu : Nat} {a0 : Nat} {σ τ : tM} {v : (Unit) ⊕ Unit} (hm : m_X12_up b0 fu a0 σ = some (v, τ)) : tMt l D aC b0 yX12_up (Cond.code yX12_up cX12_up 1 none) 0 0 [.ref (a0)] σ (rxV "SyncTreeModel$Off" v) τ := by
  unfold m_X12_up at hm
  obtain ⟨hg, hm⟩ := grw_e hm
  refine tMt_of (n := 0) rfl (Nat.le_of_ble_eq_true rfl) hg ?_
  intro p e s m below meth c C htab hin
  refine zx_lv [0] [(0, .ref (a0))] rfl ?_
  refine zx_aload_n C dX12_up_0 0 rfl ?_
  obtain ⟨k1, i2, hm⟩ := ckO_e hm
  refine zx_get (j := 18) C tC_11 k1 i2 ⟨by decide, Or.inl W_6_237⟩ dX12_up_1 (.int (tI (σ) (a0) 18)) rfl ?_
  refine zx_if_ne C 11 dX12_up_4 (by decide) (fun c3 => ?_) (fun c3 => ?_)
  · replace hm := in_e hm c3
    obtain ⟨rfl, rfl⟩ := ret_e hm
    exact zx_vret C rfl rfl rfl dX12_up_11
  · replace hm := ip_e hm c3
    obtain ⟨rfl, rfl⟩ := ret_e hm
    exact zx_off C htab W_7_183 dX12_up_7 dX12_up_10 rfl rfl
abbrev cX12_off : ByteArray := prog_13_method_72_code
def yX12_off : MethodName := ⟨"SyncTreeModel", "off", "()I"⟩
theorem Y_X12_off : tY yX12_off cX12_off 1 (some .int) 0 := ⟨W_8_138, W_1_14, ⟨by decide +kernel, by decide +kernel⟩, by decide +kernel⟩
theorem dX12_off_0 : decode cX12_off 0 = .ok (.aload_n 0, 1) := by decide +kernel
theorem dX12_off_1 : decode cX12_off 1 = .ok (.iconst 1, 1) := by decide +kernel
theorem dX12_off_2 : decode cX12_off 2 = .ok (.putfield 3, 3) := by decide +kernel
theorem dX12_off_5 : decode cX12_off 5 = .ok (.iconst 0, 1) := by decide +kernel
theorem dX12_off_6 : decode cX12_off 6 = .ok (.ireturn, 1) := by decide +kernel
def m_X12_off (b0 fu : Nat) (a0 : Nat) (σ : tM) : Option ((Int32) × tM) := grw σ (ckO b0 (σ) (a0) 11 (some (0, sI (σ) (a0) 0 (1))))
set_option maxRecDepth 100000 in
set_option maxHeartbeats 1000000 in
theorem c_X12_off {l : Launch} {D : va_G} {aC : Nat → ClassId} {b0 fu : Nat} {a0 : Nat} {σ τ : tM} {v : Int32} (hm : m_X12_off b0 fu a0 σ = some (v, τ)) : tMt l D aC b0 yX12_off (Cond.code yX12_off cX12_off 1 (some .int)) 0 0 [.ref (a0)] σ (.inl (some (.int v))) τ := by
  unfold m_X12_off at hm
  obtain ⟨hg, hm⟩ := grw_e hm
  refine tMt_of (n := 0) rfl (Nat.le_of_ble_eq_true rfl) hg ?_
  intro p e s m below meth c C htab hin
  refine zx_lv [0] [(0, .ref (a0))] rfl ?_
  refine zx_aload_n C dX12_off_0 0 rfl ?_
  refine zx_iconst (v := 1) C dX12_off_1 (by decide) ?_
  obtain ⟨k1, i2, hm⟩ := ckO_e hm
  refine zx_put (j := 0) (ρ := sI (σ) (a0) 0 (1)) C tC_11 k1 i2 ⟨by decide, Or.inl W_6_220⟩ rfl rfl rfl (sI_ok (fun _ => rfl)) dX12_off_2 ?_
  refine zx_iconst (v := 0) C dX12_off_5 (by decide) ?_
  obtain ⟨rfl, rfl⟩ := ret_e hm
  exact zx_iret C rfl rfl rfl dX12_off_6
abbrev cX12_isBelow : ByteArray := prog_13_method_81_code
def yX12_isBelow : MethodName := ⟨"SyncTreeModel", "isBelow", "(II)Z"⟩
theorem Y_X12_isBelow : tY yX12_isBelow cX12_isBelow 4 (some .boolean) 2 := ⟨W_8_212, W_1_14, ⟨by decide +kernel, by decide +kernel⟩, by decide +kernel⟩
theorem dX12_isBelow_0 : decode cX12_isBelow 0 = .ok (.iload_n 1, 1) := by decide +kernel
theorem dX12_isBelow_1 : decode cX12_isBelow 1 = .ok (.istore_n 3, 1) := by decide +kernel
theorem dX12_isBelow_2 : decode cX12_isBelow 2 = .ok (.iload_n 3, 1) := by decide +kernel
theorem dX12_isBelow_3 : decode cX12_isBelow 3 = .ok (.iload_n 2, 1) := by decide +kernel
theorem dX12_isBelow_4 : decode cX12_isBelow 4 = .ok (.if_icmp .eq 17, 3) := by decide +kernel
theorem dX12_isBelow_7 : decode cX12_isBelow 7 = .ok (.iload_n 3, 1) := by decide +kernel
theorem dX12_isBelow_8 : decode cX12_isBelow 8 = .ok (.ifCond .eq 13, 3) := by decide +kernel
theorem dX12_isBelow_11 : decode cX12_isBelow 11 = .ok (.aload_n 0, 1) := by decide +kernel
theorem dX12_isBelow_12 : decode cX12_isBelow 12 = .ok (.iload_n 3, 1) := by decide +kernel
theorem dX12_isBelow_13 : decode cX12_isBelow 13 = .ok (.iconst 3, 1) := by decide +kernel
theorem dX12_isBelow_14 : decode cX12_isBelow 14 = .ok (.invokevirtual 247, 3) := by decide +kernel
theorem dX12_isBelow_17 : decode cX12_isBelow 17 = .ok (.istore_n 3, 1) := by decide +kernel
theorem dX12_isBelow_18 : decode cX12_isBelow 18 = .ok (.goto (-16), 3) := by decide +kernel
theorem dX12_isBelow_21 : decode cX12_isBelow 21 = .ok (.iload_n 3, 1) := by decide +kernel
theorem dX12_isBelow_22 : decode cX12_isBelow 22 = .ok (.iload_n 2, 1) := by decide +kernel
theorem dX12_isBelow_23 : decode cX12_isBelow 23 = .ok (.if_icmp .ne 7, 3) := by decide +kernel
theorem dX12_isBelow_26 : decode cX12_isBelow 26 = .ok (.iconst 1, 1) := by decide +kernel
theorem dX12_isBelow_27 : decode cX12_isBelow 27 = .ok (.goto 4, 3) := by decide +kernel
theorem dX12_isBelow_30 : decode cX12_isBelow 30 = .ok (.iconst 0, 1) := by decide +kernel
theorem dX12_isBelow_31 : decode cX12_isBelow 31 = .ok (.ireturn, 1) := by decide +kernel
def J_X12_isBelow_31 (b0 fu : Nat)  (s0 : Int32) (σ : tM) : Option ((Int32) × tM) := ckZ (s0) (some (s0, σ))
def J_X12_isBelow_21 (b0 fu : Nat)  (x2 : Int32) (x3 : Int32) (σ : tM) : Option ((Int32) × tM) := if (x3) = (x2) then J_X12_isBelow_31 b0 fu   (1) (σ) else J_X12_isBelow_31 b0 fu   (0) (σ)
def L_X12_isBelow_2 (b0 fu : Nat)  : Nat → Nat → Int32 → Int32 → tM → Option ((Int32) × tM)
  | 0, _, _, _, _ => none
  | n + 1, x0, x2, x3, σ => ltb (L_X12_isBelow_2 b0 fu  n) (fun rc2 => if (x3) = (x2) then J_X12_isBelow_21 b0 fu   (x2) (x3) (σ) else if (x3) = (0) then J_X12_isBelow_21 b0 fu   (x2) (x3) (σ) else ckO b0 (σ) (x0) 11 (cll (m_X12_node b0 fu (x0) (x3) (3) (σ)) (fun v7 ρ8 => rc2 (x0) (x2) (v7) (ρ8))))
def m_X12_isBelow (b0 fu : Nat) (a0 : Nat) (p0 : Int32) (p1 : Int32) (σ : tM) : Option ((Int32) × tM) := grw σ (L_X12_isBelow_2 b0 fu  (fu) (a0) (p1) (p0) (σ))
set_option maxRecDepth 100000 in
set_option maxHeartbeats 1000000 in
theorem j_X12_isBelow_31 {p : Program} {l : Launch} {e : Env} {s : State} {m : MethodId} {args : Array Value} {below : List Frame} {meth : Method} {c : Code} {D : va_G} {aC : Nat → ClassId} {b0 fu : Nat} {σ0 τ : tM} {v : Int32}  (C : tCx p l s m args meth c yX12_isBelow.cls cX12_isBelow 4 (some .boolean) D aC b0 σ0) (htab : ∀ x ∈ c.exceptionTable.toList, False) (hin : meth.name = yX12_isBelow.name)  {s0 : Int32} {σ : tM} (hm : J_X12_isBelow_31 b0 fu  s0 σ = some (v, τ)) : tX p l e s m args below meth c 4 1 22 D aC b0 σ0 (.inl (some (.int v))) τ 31 [] [.int (s0)] σ := by
  unfold J_X12_isBelow_31 at hm
  obtain ⟨h3, hm⟩ := ckZ_e hm
  obtain ⟨rfl, rfl⟩ := ret_e hm
  exact zx_zret C rfl h3 rfl rfl dX12_isBelow_31
set_option maxRecDepth 100000 in
set_option maxHeartbeats 1000000 in
theorem j_X12_isBelow_21 {p : Program} {l : Launch} {e : Env} {s : State} {m : MethodId} {args : Array Value} {below : List Frame} {meth : Method} {c : Code} {D : va_G} {aC : Nat → ClassId} {b0 fu : Nat} {σ0 τ : tM} {v : Int32}  (C : tCx p l s m args meth c yX12_isBelow.cls cX12_isBelow 4 (some .boolean) D aC b0 σ0) (htab : ∀ x ∈ c.exceptionTable.toList, False) (hin : meth.name = yX12_isBelow.name)  {x2 : Int32} {x3 : Int32} {σ : tM} (hm : J_X12_isBelow_21 b0 fu  x2 x3 σ = some (v, τ)) : tX p l e s m args below meth c 4 1 22 D aC b0 σ0 (.inl (some (.int v))) τ 21 [(2, .int (x2)), (3, .int (x3))] [] σ := by
  unfold J_X12_isBelow_21 at hm
  refine zx_iload_n C dX12_isBelow_21 1 rfl ?_
  refine zx_iload_n C dX12_isBelow_22 0 rfl ?_
  refine zx_icmp_ne C 30 dX12_isBelow_23 (by decide) (fun c2 => ?_) (fun c2 => ?_)
  · replace hm := in_e hm c2
    refine zx_iconst (v := 0) C dX12_isBelow_30 (by decide) ?_
    exact zx_lv [] [] rfl (j_X12_isBelow_31 C htab hin    hm)
  · replace hm := ip_e hm c2
    refine zx_iconst (v := 1) C dX12_isBelow_26 (by decide) ?_
    refine zx_goto C 31 dX12_isBelow_27 (by decide) ?_
    exact zx_lv [] [] rfl (j_X12_isBelow_31 C htab hin    hm)
set_option maxRecDepth 100000 in
set_option maxHeartbeats 1000000 in
theorem l_X12_isBelow_2 {p : Program} {l : Launch} {e : Env} {s : State} {m : MethodId} {args : Array Value} {below : List Frame} {meth : Method} {c : Code} {D : va_G} {aC : Nat → ClassId} {b0 fu : Nat} {σ0 τ : tM} {v : Int32}  (C : tCx p l s m args meth c yX12_isBelow.cls cX12_isBelow 4 (some .boolean) D aC b0 σ0) (htab : ∀ x ∈ c.exceptionTable.toList, False) (hin : meth.name = yX12_isBelow.name)  : ∀ (n : Nat) (x0 : Nat) (x2 : Int32) (x3 : Int32) (σ : tM), L_X12_isBelow_2 b0 fu  n x0 x2 x3 σ = some (v, τ) → tX p l e s m args below meth c 4 1 22 D aC b0 σ0 (.inl (some (.int v))) τ 2 [(0, .ref (x0)), (2, .int (x2)), (3, .int (x3))] [] σ := by
  intro n
  induction n with
  | zero => intro x0 x2 x3 σ hm; unfold L_X12_isBelow_2 at hm; cases hm
  | succ n ih =>
    intro x0 x2 x3 σ hm
    unfold L_X12_isBelow_2 at hm
    obtain ⟨rc2, hrc⟩ : ∃ z, z = L_X12_isBelow_2 b0 fu  n := ⟨_, rfl⟩
    replace hm := ltb_e hm hrc
    rw [← hrc] at ih
    have hrc2 := ih
    clear ih hrc
    refine zx_iload_n C dX12_isBelow_2 2 rfl ?_
    refine zx_iload_n C dX12_isBelow_3 1 rfl ?_
    refine zx_icmp_eq C 21 dX12_isBelow_4 (by decide) (fun c1 => ?_) (fun c1 => ?_)
    · replace hm := ip_e hm c1
      exact zx_lv [1, 2] [(2, .int (x2)), (3, .int (x3))] rfl (j_X12_isBelow_21 C htab hin    hm)
    · replace hm := in_e hm c1
      refine zx_iload_n C dX12_isBelow_7 2 rfl ?_
      refine zx_if_eq C 21 dX12_isBelow_8 (by decide) (fun c4 => ?_) (fun c4 => ?_)
      · replace hm := ip_e hm c4
        exact zx_lv [1, 2] [(2, .int (x2)), (3, .int (x3))] rfl (j_X12_isBelow_21 C htab hin    hm)
      · replace hm := in_e hm c4
        refine zx_aload_n C dX12_isBelow_11 0 rfl ?_
        refine zx_iload_n C dX12_isBelow_12 2 rfl ?_
        refine zx_iconst (v := 3) C dX12_isBelow_13 (by decide) ?_
        obtain ⟨k5, i6, hm⟩ := ckO_e hm
        obtain ⟨v7, ρ8, h9, hm⟩ := cll_e hm
        refine zx_callV (σ := σ) C [.int (x3), .int (3)] tC_11 k5 i6 Y_X12_node W_8_40 W_8_42 Wp_80 (c_X12_node h9) (by decide) (by decide) rfl (Nat.le_of_ble_eq_true rfl) dX12_isBelow_14 rfl ?_
        refine zx_istore_n C [(3, .int (v7)), (0, .ref (x0)), (2, .int (x2))] dX12_isBelow_17 rfl (by decide) rfl ?_
        refine zx_goto C 2 dX12_isBelow_18 (by decide) ?_
        exact zx_lv [1, 2, 0] [(0, .ref (x0)), (2, .int (x2)), (3, .int (v7))] rfl (hrc2 _ _ _ _ hm)
set_option maxRecDepth 100000 in
set_option maxHeartbeats 1000000 in
theorem c_X12_isBelow {l : Launch} {D : va_G} {aC : Nat → ClassId} {b0 fu : Nat} {a0 : Nat} {p0 : Int32} {p1 : Int32} {σ τ : tM} {v : Int32} (hm : m_X12_isBelow b0 fu a0 p0 p1 σ = some (v, τ)) : tMt l D aC b0 yX12_isBelow (Cond.code yX12_isBelow cX12_isBelow 4 (some .boolean)) 1 22 [.ref (a0), .int (p0), .int (p1)] σ (.inl (some (.int v))) τ := by
  unfold m_X12_isBelow at hm
  obtain ⟨hg, hm⟩ := grw_e hm
  refine tMt_of (n := 0) rfl (Nat.le_of_ble_eq_true rfl) hg ?_
  intro p e s m below meth c C htab hin
  refine zx_lv [0, 1, 2] [(0, .ref (a0)), (1, .int (p0)), (2, .int (p1))] rfl ?_
  refine zx_iload_n C dX12_isBelow_0 1 rfl ?_
  refine zx_istore_n C [(3, .int (p0)), (0, .ref (a0)), (1, .int (p0)), (2, .int (p1))] dX12_isBelow_1 rfl (by decide) rfl ?_
  exact zx_lv [1, 3, 0] [(0, .ref (a0)), (2, .int (p1)), (3, .int (p0))] rfl (l_X12_isBelow_2 C htab hin  _ _ _ _ _ hm)
abbrev cX12_mayRename : ByteArray := prog_13_method_82_code
def yX12_mayRename : MethodName := ⟨"SyncTreeModel", "mayRename", "(III)I"⟩
theorem Y_X12_mayRename : tY yX12_mayRename cX12_mayRename 5 (some .int) 3 := ⟨W_8_208, W_1_14, ⟨by decide +kernel, by decide +kernel⟩, by decide +kernel⟩
theorem dX12_mayRename_0 : decode cX12_mayRename 0 = .ok (.iload_n 3, 1) := by decide +kernel
theorem dX12_mayRename_1 : decode cX12_mayRename 1 = .ok (.ifCond .lt 17, 3) := by decide +kernel
theorem dX12_mayRename_4 : decode cX12_mayRename 4 = .ok (.aload_n 0, 1) := by decide +kernel
theorem dX12_mayRename_5 : decode cX12_mayRename 5 = .ok (.iload_n 3, 1) := by decide +kernel
theorem dX12_mayRename_6 : decode cX12_mayRename 6 = .ok (.iconst 0, 1) := by decide +kernel
theorem dX12_mayRename_7 : decode cX12_mayRename 7 = .ok (.invokevirtual 247, 3) := by decide +kernel
theorem dX12_mayRename_10 : decode cX12_mayRename 10 = .ok (.iconst 2, 1) := by decide +kernel
theorem dX12_mayRename_11 : decode cX12_mayRename 11 = .ok (.if_icmp .ne 7, 3) := by decide +kernel
theorem dX12_mayRename_14 : decode cX12_mayRename 14 = .ok (.iconst 1, 1) := by decide +kernel
theorem dX12_mayRename_15 : decode cX12_mayRename 15 = .ok (.goto 4, 3) := by decide +kernel
theorem dX12_mayRename_18 : decode cX12_mayRename 18 = .ok (.iconst 0, 1) := by decide +kernel
theorem dX12_mayRename_19 : decode cX12_mayRename 19 = .ok (.istore 4, 2) := by decide +kernel
theorem dX12_mayRename_21 : decode cX12_mayRename 21 = .ok (.aload_n 0, 1) := by decide +kernel
theorem dX12_mayRename_22 : decode cX12_mayRename 22 = .ok (.iload_n 1, 1) := by decide +kernel
theorem dX12_mayRename_23 : decode cX12_mayRename 23 = .ok (.iconst 0, 1) := by decide +kernel
theorem dX12_mayRename_24 : decode cX12_mayRename 24 = .ok (.invokevirtual 247, 3) := by decide +kernel
theorem dX12_mayRename_27 : decode cX12_mayRename 27 = .ok (.iconst 2, 1) := by decide +kernel
theorem dX12_mayRename_28 : decode cX12_mayRename 28 = .ok (.if_icmp .ne 44, 3) := by decide +kernel
theorem dX12_mayRename_31 : decode cX12_mayRename 31 = .ok (.aload_n 0, 1) := by decide +kernel
theorem dX12_mayRename_32 : decode cX12_mayRename 32 = .ok (.iload_n 2, 1) := by decide +kernel
theorem dX12_mayRename_33 : decode cX12_mayRename 33 = .ok (.iload_n 1, 1) := by decide +kernel
theorem dX12_mayRename_34 : decode cX12_mayRename 34 = .ok (.invokevirtual 440, 3) := by decide +kernel
theorem dX12_mayRename_37 : decode cX12_mayRename 37 = .ok (.ifCond .eq 6, 3) := by decide +kernel
theorem dX12_mayRename_40 : decode cX12_mayRename 40 = .ok (.bipush (-9), 2) := by decide +kernel
theorem dX12_mayRename_42 : decode cX12_mayRename 42 = .ok (.ireturn, 1) := by decide +kernel
theorem dX12_mayRename_43 : decode cX12_mayRename 43 = .ok (.iload_n 3, 1) := by decide +kernel
theorem dX12_mayRename_44 : decode cX12_mayRename 44 = .ok (.ifCond .lt 11, 3) := by decide +kernel
theorem dX12_mayRename_47 : decode cX12_mayRename 47 = .ok (.iload 4, 2) := by decide +kernel
theorem dX12_mayRename_49 : decode cX12_mayRename 49 = .ok (.ifCond .ne 6, 3) := by decide +kernel
theorem dX12_mayRename_52 : decode cX12_mayRename 52 = .ok (.bipush (-3), 2) := by decide +kernel
theorem dX12_mayRename_54 : decode cX12_mayRename 54 = .ok (.ireturn, 1) := by decide +kernel
theorem dX12_mayRename_55 : decode cX12_mayRename 55 = .ok (.iload 4, 2) := by decide +kernel
theorem dX12_mayRename_57 : decode cX12_mayRename 57 = .ok (.ifCond .eq 23, 3) := by decide +kernel
theorem dX12_mayRename_60 : decode cX12_mayRename 60 = .ok (.aload_n 0, 1) := by decide +kernel
theorem dX12_mayRename_61 : decode cX12_mayRename 61 = .ok (.iload_n 3, 1) := by decide +kernel
theorem dX12_mayRename_62 : decode cX12_mayRename 62 = .ok (.iconst 1, 1) := by decide +kernel
theorem dX12_mayRename_63 : decode cX12_mayRename 63 = .ok (.invokevirtual 247, 3) := by decide +kernel
theorem dX12_mayRename_66 : decode cX12_mayRename 66 = .ok (.ifCond .le 14, 3) := by decide +kernel
theorem dX12_mayRename_69 : decode cX12_mayRename 69 = .ok (.bipush (-5), 2) := by decide +kernel
theorem dX12_mayRename_71 : decode cX12_mayRename 71 = .ok (.ireturn, 1) := by decide +kernel
theorem dX12_mayRename_72 : decode cX12_mayRename 72 = .ok (.iload 4, 2) := by decide +kernel
theorem dX12_mayRename_74 : decode cX12_mayRename 74 = .ok (.ifCond .eq 6, 3) := by decide +kernel
theorem dX12_mayRename_77 : decode cX12_mayRename 77 = .ok (.bipush (-4), 2) := by decide +kernel
theorem dX12_mayRename_79 : decode cX12_mayRename 79 = .ok (.ireturn, 1) := by decide +kernel
theorem dX12_mayRename_80 : decode cX12_mayRename 80 = .ok (.iload_n 3, 1) := by decide +kernel
theorem dX12_mayRename_81 : decode cX12_mayRename 81 = .ok (.ifCond .ge 16, 3) := by decide +kernel
theorem dX12_mayRename_84 : decode cX12_mayRename 84 = .ok (.aload_n 0, 1) := by decide +kernel
theorem dX12_mayRename_85 : decode cX12_mayRename 85 = .ok (.iload_n 2, 1) := by decide +kernel
theorem dX12_mayRename_86 : decode cX12_mayRename 86 = .ok (.invokevirtual 412, 3) := by decide +kernel
theorem dX12_mayRename_89 : decode cX12_mayRename 89 = .ok (.ifCond .eq 8, 3) := by decide +kernel
theorem dX12_mayRename_92 : decode cX12_mayRename 92 = .ok (.bipush (-6), 2) := by decide +kernel
theorem dX12_mayRename_94 : decode cX12_mayRename 94 = .ok (.goto 4, 3) := by decide +kernel
theorem dX12_mayRename_97 : decode cX12_mayRename 97 = .ok (.iconst 0, 1) := by decide +kernel
theorem dX12_mayRename_98 : decode cX12_mayRename 98 = .ok (.ireturn, 1) := by decide +kernel
def J_X12_mayRename_98 (b0 fu : Nat)  (s0 : Int32) (σ : tM) : Option ((Int32) × tM) := some (s0, σ)
def J_X12_mayRename_97 (b0 fu : Nat)   (σ : tM) : Option ((Int32) × tM) := J_X12_mayRename_98 b0 fu   (0) (σ)
def J_X12_mayRename_80 (b0 fu : Nat)  (x0 : Nat) (x2 : Int32) (x3 : Int32) (σ : tM) : Option ((Int32) × tM) := if (0) ≤ (x3) then J_X12_mayRename_97 b0 fu    (σ) else ckO b0 (σ) (x0) 11 (cll (m_X12_lacks b0 fu (x0) (x2) (σ)) (fun v12 ρ13 => if (v12) = (0) then J_X12_mayRename_97 b0 fu    (ρ13) else J_X12_mayRename_98 b0 fu   ((-6)) (ρ13)))
def J_X12_mayRename_55 (b0 fu : Nat)  (x0 : Nat) (x2 : Int32) (x3 : Int32) (x4 : Int32) (σ : tM) : Option ((Int32) × tM) := if (x4) = (0) then J_X12_mayRename_80 b0 fu   (x0) (x2) (x3) (σ) else ckO b0 (σ) (x0) 11 (cll (m_X12_node b0 fu (x0) (x3) (1) (σ)) (fun v26 ρ27 => if (v26) ≤ (0) then J_X12_mayRename_80 b0 fu   (x0) (x2) (x3) (ρ27) else some ((-5), ρ27)))
def J_X12_mayRename_19 (b0 fu : Nat)  (x0 : Nat) (x1 : Int32) (x2 : Int32) (x3 : Int32) (s0 : Int32) (σ : tM) : Option ((Int32) × tM) := ckO b0 (σ) (x0) 11 (cll (m_X12_node b0 fu (x0) (x1) (0) (σ)) (fun v4 ρ5 => if (v4) = (2) then ckO b0 (ρ5) (x0) 11 (cll (m_X12_isBelow b0 fu (x0) (x2) (x1) (ρ5)) (fun v18 ρ19 => if (v18) = (0) then if (x3) < (0) then J_X12_mayRename_55 b0 fu   (x0) (x2) (x3) (s0) (ρ19) else if (s0) = (0) then some ((-3), ρ19) else J_X12_mayRename_55 b0 fu   (x0) (x2) (x3) (s0) (ρ19) else some ((-9), ρ19))) else if (s0) = (0) then J_X12_mayRename_80 b0 fu   (x0) (x2) (x3) (ρ5) else some ((-4), ρ5)))
def J_X12_mayRename_18 (b0 fu : Nat)  (x0 : Nat) (x1 : Int32) (x2 : Int32) (x3 : Int32) (σ : tM) : Option ((Int32) × tM) := J_X12_mayRename_19 b0 fu   (x0) (x1) (x2) (x3) (0) (σ)
def m_X12_mayRename (b0 fu : Nat) (a0 : Nat) (p0 : Int32) (p1 : Int32) (p2 : Int32) (σ : tM) : Option ((Int32) × tM) := grw σ (if (p2) < (0) then J_X12_mayRename_18 b0 fu   (a0) (p0) (p1) (p2) (σ) else ckO b0 (σ) (a0) 11 (cll (m_X12_node b0 fu (a0) (p2) (0) (σ)) (fun v33 ρ34 => if (v33) = (2) then J_X12_mayRename_19 b0 fu   (a0) (p0) (p1) (p2) (1) (ρ34) else J_X12_mayRename_18 b0 fu   (a0) (p0) (p1) (p2) (ρ34))))
set_option maxRecDepth 100000 in
set_option maxHeartbeats 1000000 in
theorem j_X12_mayRename_98 {p : Program} {l : Launch} {e : Env} {s : State} {m : MethodId} {args : Array Value} {below : List Frame} {meth : Method} {c : Code} {D : va_G} {aC : Nat → ClassId} {b0 fu : Nat} {σ0 τ : tM} {v : Int32}  (C : tCx p l s m args meth c yX12_mayRename.cls cX12_mayRename 5 (some .int) D aC b0 σ0) (htab : ∀ x ∈ c.exceptionTable.toList, False) (hin : meth.name = yX12_mayRename.name)  {s0 : Int32} {σ : tM} (hm : J_X12_mayRename_98 b0 fu  s0 σ = some (v, τ)) : tX p l e s m args below meth c 5 8 179 D aC b0 σ0 (.inl (some (.int v))) τ 98 [] [.int (s0)] σ := by
  unfold J_X12_mayRename_98 at hm
  obtain ⟨rfl, rfl⟩ := ret_e hm
  exact zx_iret C rfl rfl rfl dX12_mayRename_98
set_option maxRecDepth 100000 in
set_option maxHeartbeats 1000000 in
theorem j_X12_mayRename_97 {p : Program} {l : Launch} {e : Env} {s : State} {m : MethodId} {args : Array Value} {below : List Frame} {meth : Method} {c : Code} {D : va_G} {aC : Nat → ClassId} {b0 fu : Nat} {σ0 τ : tM} {v : Int32}  (C : tCx p l s m args meth c yX12_mayRename.cls cX12_mayRename 5 (some .int) D aC b0 σ0) (htab : ∀ x ∈ c.exceptionTable.toList, False) (hin : meth.name = yX12_mayRename.name)   {σ : tM} (hm : J_X12_mayRename_97 b0 fu   σ = some (v, τ)) : tX p l e s m args below meth c 5 8 179 D aC b0 σ0 (.inl (some (.int v))) τ 97 [] [] σ := by
  unfold J_X12_mayRename_97 at hm
  refine zx_iconst (v := 0) C dX12_mayRename_97 (by decide) ?_
  exact zx_lv [] [] rfl (j_X12_mayRename_98 C htab hin    hm)
set_option maxRecDepth 100000 in
set_option maxHeartbeats 1000000 in
theorem j_X12_mayRename_80 {p : Program} {l : Launch} {e : Env} {s : State} {m : MethodId} {args : Array Value} {below : List Frame} {meth : Method} {c : Code} {D : va_G} {aC : Nat → ClassId} {b0 fu : Nat} {σ0 τ : tM} {v : Int32}  (C : tCx p l s m args meth c yX12_mayRename.cls cX12_mayRename 5 (some .int) D aC b0 σ0) (htab : ∀ x ∈ c.exceptionTable.toList, False) (hin : meth.name = yX12_mayRename.name)  {x0 : Nat} {x2 : Int32} {x3 : Int32} {σ : tM} (hm : J_X12_mayRename_80 b0 fu  x0 x2 x3 σ = some (v, τ)) : tX p l e s m args below meth c 5 8 179 D aC b0 σ0 (.inl (some (.int v))) τ 80 [(0, .ref (x0)), (2, .int (x2)), (3, .int (x3))] [] σ := by
  unfold J_X12_mayRename_80 at hm
  refine zx_iload_n C dX12_mayRename_80 2 rfl ?_
  refine zx_if_ge C 97 dX12_mayRename_81 (by decide) (fun c9 => ?_) (fun c9 => ?_)
  · replace hm := ip_e hm c9
    exact zx_lv [] [] rfl (j_X12_mayRename_97 C htab hin    hm)
  · replace hm := in_e hm c9
    refine zx_aload_n C dX12_mayRename_84 0 rfl ?_
    refine zx_iload_n C dX12_mayRename_85 1 rfl ?_
    obtain ⟨k10, i11, hm⟩ := ckO_e hm
    obtain ⟨v12, ρ13, h14, hm⟩ := cll_e hm
    refine zx_callV (σ := σ) C [.int (x2)] tC_11 k10 i11 Y_X12_lacks W_8_79 W_8_81 Wp_89 (c_X12_lacks h14) (by decide) (by decide) rfl (Nat.le_of_ble_eq_true rfl) dX12_mayRename_86 rfl ?_
    refine zx_if_eq C 97 dX12_mayRename_89 (by decide) (fun c15 => ?_) (fun c15 => ?_)
    · replace hm := ip_e hm c15
      exact zx_lv [] [] rfl (j_X12_mayRename_97 C htab hin    hm)
    · replace hm := in_e hm c15
      refine zx_bipush (v := (-6)) C dX12_mayRename_92 (by decide) ?_
      refine zx_goto C 98 dX12_mayRename_94 (by decide) ?_
      exact zx_lv [] [] rfl (j_X12_mayRename_98 C htab hin    hm)
set_option maxRecDepth 100000 in
set_option maxHeartbeats 1000000 in
theorem j_X12_mayRename_55 {p : Program} {l : Launch} {e : Env} {s : State} {m : MethodId} {args : Array Value} {below : List Frame} {meth : Method} {c : Code} {D : va_G} {aC : Nat → ClassId} {b0 fu : Nat} {σ0 τ : tM} {v : Int32}  (C : tCx p l s m args meth c yX12_mayRename.cls cX12_mayRename 5 (some .int) D aC b0 σ0) (htab : ∀ x ∈ c.exceptionTable.toList, False) (hin : meth.name = yX12_mayRename.name)  {x0 : Nat} {x2 : Int32} {x3 : Int32} {x4 : Int32} {σ : tM} (hm : J_X12_mayRename_55 b0 fu  x0 x2 x3 x4 σ = some (v, τ)) : tX p l e s m args below meth c 5 8 179 D aC b0 σ0 (.inl (some (.int v))) τ 55 [(0, .ref (x0)), (2, .int (x2)), (3, .int (x3)), (4, .int (x4))] [] σ := by
  unfold J_X12_mayRename_55 at hm
  refine zx_iload C dX12_mayRename_55 3 rfl ?_
  refine zx_if_eq C 80 dX12_mayRename_57 (by decide) (fun c23 => ?_) (fun c23 => ?_)
  · replace hm := ip_e hm c23
    exact zx_lv [0, 1, 2] [(0, .ref (x0)), (2, .int (x2)), (3, .int (x3))] rfl (j_X12_mayRename_80 C htab hin    hm)
  · replace hm := in_e hm c23
    refine zx_aload_n C dX12_mayRename_60 0 rfl ?_
    refine zx_iload_n C dX12_mayRename_61 2 rfl ?_
    refine zx_iconst (v := 1) C dX12_mayRename_62 (by decide) ?_
    obtain ⟨k24, i25, hm⟩ := ckO_e hm
    obtain ⟨v26, ρ27, h28, hm⟩ := cll_e hm
    refine zx_callV (σ := σ) C [.int (x3), .int (1)] tC_11 k24 i25 Y_X12_node W_8_40 W_8_42 Wp_80 (c_X12_node h28) (by decide) (by decide) rfl (Nat.le_of_ble_eq_true rfl) dX12_mayRename_63 rfl ?_
    refine zx_if_le C 80 dX12_mayRename_66 (by decide) (fun c29 => ?_) (fun c29 => ?_)
    · replace hm := ip_e hm c29
      exact zx_lv [0, 1, 2] [(0, .ref (x0)), (2, .int (x2)), (3, .int (x3))] rfl (j_X12_mayRename_80 C htab hin    hm)
    · replace hm := in_e hm c29
      refine zx_bipush (v := (-5)) C dX12_mayRename_69 (by decide) ?_
      obtain ⟨rfl, rfl⟩ := ret_e hm
      exact zx_iret C rfl rfl rfl dX12_mayRename_71
set_option maxRecDepth 100000 in
set_option maxHeartbeats 1000000 in
theorem j_X12_mayRename_19 {p : Program} {l : Launch} {e : Env} {s : State} {m : MethodId} {args : Array Value} {below : List Frame} {meth : Method} {c : Code} {D : va_G} {aC : Nat → ClassId} {b0 fu : Nat} {σ0 τ : tM} {v : Int32}  (C : tCx p l s m args meth c yX12_mayRename.cls cX12_mayRename 5 (some .int) D aC b0 σ0) (htab : ∀ x ∈ c.exceptionTable.toList, False) (hin : meth.name = yX12_mayRename.name)  {x0 : Nat} {x1 : Int32} {x2 : Int32} {x3 : Int32} {s0 : Int32} {σ : tM} (hm : J_X12_mayRename_19 b0 fu  x0 x1 x2 x3 s0 σ = some (v, τ)) : tX p l e s m args below meth c 5 8 179 D aC b0 σ0 (.inl (some (.int v))) τ 19 [(0, .ref (x0)), (1, .int (x1)), (2, .int (x2)), (3, .int (x3))] [.int (s0)] σ := by
  unfold J_X12_mayRename_19 at hm
  refine zx_istore C [(4, .int (s0)), (0, .ref (x0)), (1, .int (x1)), (2, .int (x2)), (3, .int (x3))] dX12_mayRename_19 (by decide) rfl ?_
  refine zx_aload_n C dX12_mayRename_21 1 rfl ?_
  refine zx_iload_n C dX12_mayRename_22 2 rfl ?_
  refine zx_iconst (v := 0) C dX12_mayRename_23 (by decide) ?_
  obtain ⟨k2, i3, hm⟩ := ckO_e hm
  obtain ⟨v4, ρ5, h6, hm⟩ := cll_e hm
  refine zx_callV (σ := σ) C [.int (x1), .int (0)] tC_11 k2 i3 Y_X12_node W_8_40 W_8_42 Wp_80 (c_X12_node h6) (by decide) (by decide) rfl (Nat.le_of_ble_eq_true rfl) dX12_mayRename_24 rfl ?_
  refine zx_iconst (v := 2) C dX12_mayRename_27 (by decide) ?_
  refine zx_icmp_ne C 72 dX12_mayRename_28 (by decide) (fun c7 => ?_) (fun c7 => ?_)
  · replace hm := in_e hm c7
    refine zx_iload C dX12_mayRename_72 0 rfl ?_
    refine zx_if_eq C 80 dX12_mayRename_74 (by decide) (fun c8 => ?_) (fun c8 => ?_)
    · replace hm := ip_e hm c8
      exact zx_lv [1, 3, 4] [(0, .ref (x0)), (2, .int (x2)), (3, .int (x3))] rfl (j_X12_mayRename_80 C htab hin    hm)
    · replace hm := in_e hm c8
      refine zx_bipush (v := (-4)) C dX12_mayRename_77 (by decide) ?_
      obtain ⟨rfl, rfl⟩ := ret_e hm
      exact zx_iret C rfl rfl rfl dX12_mayRename_79
  · replace hm := ip_e hm c7
    refine zx_aload_n C dX12_mayRename_31 1 rfl ?_
    refine zx_iload_n C dX12_mayRename_32 3 rfl ?_
    refine zx_iload_n C dX12_mayRename_33 2 rfl ?_
    obtain ⟨k16, i17, hm⟩ := ckO_e hm
    obtain ⟨v18, ρ19, h20, hm⟩ := cll_e hm
    refine zx_callV (σ := ρ5) C [.int (x2), .int (x1)] tC_11 k16 i17 Y_X12_isBelow W_8_209 W_8_211 Wp_115 (c_X12_isBelow h20) (by decide) (by decide) rfl (Nat.le_of_ble_eq_true rfl) dX12_mayRename_34 rfl ?_
    refine zx_if_eq C 43 dX12_mayRename_37 (by decide) (fun c21 => ?_) (fun c21 => ?_)
    · replace hm := ip_e hm c21
      refine zx_iload_n C dX12_mayRename_43 4 rfl ?_
      refine zx_if_lt C 55 dX12_mayRename_44 (by decide) (fun c22 => ?_) (fun c22 => ?_)
      · replace hm := ip_e hm c22
        exact zx_lv [1, 3, 4, 0] [(0, .ref (x0)), (2, .int (x2)), (3, .int (x3)), (4, .int (s0))] rfl (j_X12_mayRename_55 C htab hin    hm)
      · replace hm := in_e hm c22
        refine zx_iload C dX12_mayRename_47 0 rfl ?_
        refine zx_if_ne C 55 dX12_mayRename_49 (by decide) (fun c30 => ?_) (fun c30 => ?_)
        · replace hm := in_e hm c30
          exact zx_lv [1, 3, 4, 0] [(0, .ref (x0)), (2, .int (x2)), (3, .int (x3)), (4, .int (s0))] rfl (j_X12_mayRename_55 C htab hin    hm)
        · replace hm := ip_e hm c30
          refine zx_bipush (v := (-3)) C dX12_mayRename_52 (by decide) ?_
          obtain ⟨rfl, rfl⟩ := ret_e hm
          exact zx_iret C rfl rfl rfl dX12_mayRename_54
    · replace hm := in_e hm c21
      refine zx_bipush (v := (-9)) C dX12_mayRename_40 (by decide) ?_
      obtain ⟨rfl, rfl⟩ := ret_e hm
      exact zx_iret C rfl rfl rfl dX12_mayRename_42
set_option maxRecDepth 100000 in
set_option maxHeartbeats 1000000 in
theorem j_X12_mayRename_18 {p : Program} {l : Launch} {e : Env} {s : State} {m : MethodId} {args : Array Value} {below : List Frame} {meth : Method} {c : Code} {D : va_G} {aC : Nat → ClassId} {b0 fu : Nat} {σ0 τ : tM} {v : Int32}  (C : tCx p l s m args meth c yX12_mayRename.cls cX12_mayRename 5 (some .int) D aC b0 σ0) (htab : ∀ x ∈ c.exceptionTable.toList, False) (hin : meth.name = yX12_mayRename.name)  {x0 : Nat} {x1 : Int32} {x2 : Int32} {x3 : Int32} {σ : tM} (hm : J_X12_mayRename_18 b0 fu  x0 x1 x2 x3 σ = some (v, τ)) : tX p l e s m args below meth c 5 8 179 D aC b0 σ0 (.inl (some (.int v))) τ 18 [(0, .ref (x0)), (1, .int (x1)), (2, .int (x2)), (3, .int (x3))] [] σ := by
  unfold J_X12_mayRename_18 at hm
  refine zx_iconst (v := 0) C dX12_mayRename_18 (by decide) ?_
  exact zx_lv [0, 1, 2, 3] [(0, .ref (x0)), (1, .int (x1)), (2, .int (x2)), (3, .int (x3))] rfl (j_X12_mayRename_19 C htab hin    hm)
set_option maxRecDepth 100000 in
set_option maxHeartbeats 1000000 in
theorem c_X12_mayRename {l : Launch} {D : va_G} {aC : Nat → ClassId} {b0 fu : Nat} {a0 : Nat} {p0 : Int32} {p1 : Int32} {p2 : Int32} {σ τ : tM} {v : Int32} (hm : m_X12_mayRename b0 fu a0 p0 p1 p2 σ = some (v, τ)) : tMt l D aC b0 yX12_mayRename (Cond.code yX12_mayRename cX12_mayRename 5 (some .int)) 8 179 [.ref (a0), .int (p0), .int (p1), .int (p2)] σ (.inl (some (.int v))) τ := by
  unfold m_X12_mayRename at hm
  obtain ⟨hg, hm⟩ := grw_e hm
  refine tMt_of (n := 0) rfl (Nat.le_of_ble_eq_true rfl) hg ?_
  intro p e s m below meth c C htab hin
  refine zx_lv [0, 1, 2, 3] [(0, .ref (a0)), (1, .int (p0)), (2, .int (p1)), (3, .int (p2))] rfl ?_
  refine zx_iload_n C dX12_mayRename_0 3 rfl ?_
  refine zx_if_lt C 18 dX12_mayRename_1 (by decide) (fun c1 => ?_) (fun c1 => ?_)
  · replace hm := ip_e hm c1
    exact zx_lv [0, 1, 2, 3] [(0, .ref (a0)), (1, .int (p0)), (2, .int (p1)), (3, .int (p2))] rfl (j_X12_mayRename_18 C htab hin    hm)
  · replace hm := in_e hm c1
    refine zx_aload_n C dX12_mayRename_4 0 rfl ?_
    refine zx_iload_n C dX12_mayRename_5 3 rfl ?_
    refine zx_iconst (v := 0) C dX12_mayRename_6 (by decide) ?_
    obtain ⟨k31, i32, hm⟩ := ckO_e hm
    obtain ⟨v33, ρ34, h35, hm⟩ := cll_e hm
    refine zx_callV (σ := σ) C [.int (p2), .int (0)] tC_11 k31 i32 Y_X12_node W_8_40 W_8_42 Wp_80 (c_X12_node h35) (by decide) (by decide) rfl (Nat.le_of_ble_eq_true rfl) dX12_mayRename_7 rfl ?_
    refine zx_iconst (v := 2) C dX12_mayRename_10 (by decide) ?_
    refine zx_icmp_ne C 18 dX12_mayRename_11 (by decide) (fun c36 => ?_) (fun c36 => ?_)
    · replace hm := in_e hm c36
      exact zx_lv [0, 1, 2, 3] [(0, .ref (a0)), (1, .int (p0)), (2, .int (p1)), (3, .int (p2))] rfl (j_X12_mayRename_18 C htab hin    hm)
    · replace hm := ip_e hm c36
      refine zx_iconst (v := 1) C dX12_mayRename_14 (by decide) ?_
      refine zx_goto C 19 dX12_mayRename_15 (by decide) ?_
      exact zx_lv [0, 1, 2, 3] [(0, .ref (a0)), (1, .int (p0)), (2, .int (p1)), (3, .int (p2))] rfl (j_X12_mayRename_19 C htab hin    hm)
abbrev cX12_isHandle : ByteArray := prog_13_method_84_code
def yX12_isHandle : MethodName := ⟨"SyncTreeModel", "isHandle", "(I)Z"⟩
theorem Y_X12_isHandle : tY yX12_isHandle cX12_isHandle 2 (some .boolean) 1 := ⟨W_8_224, W_1_14, ⟨by decide +kernel, by decide +kernel⟩, by decide +kernel⟩
theorem dX12_isHandle_0 : decode cX12_isHandle 0 = .ok (.iload_n 1, 1) := by decide +kernel
theorem dX12_isHandle_1 : decode cX12_isHandle 1 = .ok (.ifCond .lt 22, 3) := by decide +kernel
theorem dX12_isHandle_4 : decode cX12_isHandle 4 = .ok (.iload_n 1, 1) := by decide +kernel
theorem dX12_isHandle_5 : decode cX12_isHandle 5 = .ok (.bipush 16, 2) := by decide +kernel
theorem dX12_isHandle_7 : decode cX12_isHandle 7 = .ok (.if_icmp .ge 16, 3) := by decide +kernel
theorem dX12_isHandle_10 : decode cX12_isHandle 10 = .ok (.aload_n 0, 1) := by decide +kernel
theorem dX12_isHandle_11 : decode cX12_isHandle 11 = .ok (.getfield 286, 3) := by decide +kernel
theorem dX12_isHandle_14 : decode cX12_isHandle 14 = .ok (.iload_n 1, 1) := by decide +kernel
theorem dX12_isHandle_15 : decode cX12_isHandle 15 = .ok (.iaload, 1) := by decide +kernel
theorem dX12_isHandle_16 : decode cX12_isHandle 16 = .ok (.ifCond .lt 7, 3) := by decide +kernel
theorem dX12_isHandle_19 : decode cX12_isHandle 19 = .ok (.iconst 1, 1) := by decide +kernel
theorem dX12_isHandle_20 : decode cX12_isHandle 20 = .ok (.goto 4, 3) := by decide +kernel
theorem dX12_isHandle_23 : decode cX12_isHandle 23 = .ok (.iconst 0, 1) := by decide +kernel
theorem dX12_isHandle_24 : decode cX12_isHandle 24 = .ok (.ireturn, 1) := by decide +kernel
def J_X12_isHandle_24 (b0 fu : Nat)  (s0 : Int32) (σ : tM) : Option ((Int32) × tM) := ckZ (s0) (some (s0, σ))
def J_X12_isHandle_23 (b0 fu : Nat)   (σ : tM) : Option ((Int32) × tM) := J_X12_isHandle_24 b0 fu   (0) (σ)
def m_X12_isHandle (b0 fu : Nat) (a0 : Nat) (p0 : Int32) (σ : tM) : Option ((Int32) × tM) := grw σ (if (p0) < (0) then J_X12_isHandle_23 b0 fu    (σ) else if (16) ≤ (p0) then J_X12_isHandle_23 b0 fu    (σ) else ckO b0 (σ) (a0) 11 (osm (tA (σ) (a0) 58) (fun a6 => ckR b0 (σ) (a6) 0 (fun n10 => ckI (p0) (n10) (if (tI (σ) (a6) ((p0).toNatClampNeg)) < (0) then J_X12_isHandle_23 b0 fu    (σ) else J_X12_isHandle_24 b0 fu   (1) (σ))))))
set_option maxRecDepth 100000 in
set_option maxHeartbeats 1000000 in
theorem j_X12_isHandle_24 {p : Program} {l : Launch} {e : Env} {s : State} {m : MethodId} {args : Array Value} {below : List Frame} {meth : Method} {c : Code} {D : va_G} {aC : Nat → ClassId} {b0 fu : Nat} {σ0 τ : tM} {v : Int32}  (C : tCx p l s m args meth c yX12_isHandle.cls cX12_isHandle 2 (some .boolean) D aC b0 σ0) (htab : ∀ x ∈ c.exceptionTable.toList, False) (hin : meth.name = yX12_isHandle.name)  {s0 : Int32} {σ : tM} (hm : J_X12_isHandle_24 b0 fu  s0 σ = some (v, τ)) : tX p l e s m args below meth c 2 0 0 D aC b0 σ0 (.inl (some (.int v))) τ 24 [] [.int (s0)] σ := by
  unfold J_X12_isHandle_24 at hm
  obtain ⟨h2, hm⟩ := ckZ_e hm
  obtain ⟨rfl, rfl⟩ := ret_e hm
  exact zx_zret C rfl h2 rfl rfl dX12_isHandle_24
set_option maxRecDepth 100000 in
set_option maxHeartbeats 1000000 in
theorem j_X12_isHandle_23 {p : Program} {l : Launch} {e : Env} {s : State} {m : MethodId} {args : Array Value} {below : List Frame} {meth : Method} {c : Code} {D : va_G} {aC : Nat → ClassId} {b0 fu : Nat} {σ0 τ : tM} {v : Int32}  (C : tCx p l s m args meth c yX12_isHandle.cls cX12_isHandle 2 (some .boolean) D aC b0 σ0) (htab : ∀ x ∈ c.exceptionTable.toList, False) (hin : meth.name = yX12_isHandle.name)   {σ : tM} (hm : J_X12_isHandle_23 b0 fu   σ = some (v, τ)) : tX p l e s m args below meth c 2 0 0 D aC b0 σ0 (.inl (some (.int v))) τ 23 [] [] σ := by
  unfold J_X12_isHandle_23 at hm
  refine zx_iconst (v := 0) C dX12_isHandle_23 (by decide) ?_
  exact zx_lv [] [] rfl (j_X12_isHandle_24 C htab hin    hm)
set_option maxRecDepth 100000 in
set_option maxHeartbeats 1000000 in
theorem c_X12_isHandle {l : Launch} {D : va_G} {aC : Nat → ClassId} {b0 fu : Nat} {a0 : Nat} {p0 : Int32} {σ τ : tM} {v : Int32} (hm : m_X12_isHandle b0 fu a0 p0 σ = some (v, τ)) : tMt l D aC b0 yX12_isHandle (Cond.code yX12_isHandle cX12_isHandle 2 (some .boolean)) 0 0 [.ref (a0), .int (p0)] σ (.inl (some (.int v))) τ := by
  unfold m_X12_isHandle at hm
  obtain ⟨hg, hm⟩ := grw_e hm
  refine tMt_of (n := 0) rfl (Nat.le_of_ble_eq_true rfl) hg ?_
  intro p e s m below meth c C htab hin
  refine zx_lv [0, 1] [(0, .ref (a0)), (1, .int (p0))] rfl ?_
  refine zx_iload_n C dX12_isHandle_0 1 rfl ?_
  refine zx_if_lt C 23 dX12_isHandle_1 (by decide) (fun c1 => ?_) (fun c1 => ?_)
  · replace hm := ip_e hm c1
    exact zx_lv [] [] rfl (j_X12_isHandle_23 C htab hin    hm)
  · replace hm := in_e hm c1
    refine zx_iload_n C dX12_isHandle_4 1 rfl ?_
    refine zx_bipush (v := 16) C dX12_isHandle_5 (by decide) ?_
    refine zx_icmp_ge C 23 dX12_isHandle_7 (by decide) (fun c3 => ?_) (fun c3 => ?_)
    · replace hm := ip_e hm c3
      exact zx_lv [] [] rfl (j_X12_isHandle_23 C htab hin    hm)
    · replace hm := in_e hm c3
      refine zx_aload_n C dX12_isHandle_10 0 rfl ?_
      obtain ⟨k4, i5, hm⟩ := ckO_e hm
      obtain ⟨a6, h7, hm⟩ := osm_e hm
      refine zx_get (j := 58) C tC_11 k4 i5 ⟨by decide, Or.inl W_7_37⟩ dX12_isHandle_11 (.ref a6) (rf_s h7) ?_
      refine zx_iload_n C dX12_isHandle_14 1 rfl ?_
      obtain ⟨n10, k8, i9, hm⟩ := ckR_e hm
      obtain ⟨h11, hm⟩ := ckI_e hm
      refine zx_iald C k8 i9 h11 dX12_isHandle_15 ?_
      refine zx_if_lt C 23 dX12_isHandle_16 (by decide) (fun c12 => ?_) (fun c12 => ?_)
      · replace hm := ip_e hm c12
        exact zx_lv [] [] rfl (j_X12_isHandle_23 C htab hin    hm)
      · replace hm := in_e hm c12
        refine zx_iconst (v := 1) C dX12_isHandle_19 (by decide) ?_
        refine zx_goto C 24 dX12_isHandle_20 (by decide) ?_
        exact zx_lv [] [] rfl (j_X12_isHandle_24 C htab hin    hm)
abbrev cX12_byteOf : ByteArray := prog_13_method_91_code
def yX12_byteOf : MethodName := ⟨"SyncTreeModel", "byteOf", "(II)I"⟩
theorem Y_X12_byteOf : tY yX12_byteOf cX12_byteOf 4 (some .int) 2 := ⟨W_9_9, W_1_14, ⟨by decide +kernel, by decide +kernel⟩, by decide +kernel⟩
theorem dX12_byteOf_0 : decode cX12_byteOf 0 = .ok (.aload_n 0, 1) := by decide +kernel
theorem dX12_byteOf_1 : decode cX12_byteOf 1 = .ok (.iload_n 1, 1) := by decide +kernel
theorem dX12_byteOf_2 : decode cX12_byteOf 2 = .ok (.iload_n 2, 1) := by decide +kernel
theorem dX12_byteOf_3 : decode cX12_byteOf 3 = .ok (.sipush 256, 3) := by decide +kernel
theorem dX12_byteOf_6 : decode cX12_byteOf 6 = .ok (.idiv, 1) := by decide +kernel
theorem dX12_byteOf_7 : decode cX12_byteOf 7 = .ok (.invokevirtual 259, 3) := by decide +kernel
theorem dX12_byteOf_10 : decode cX12_byteOf 10 = .ok (.iconst 1, 1) := by decide +kernel
theorem dX12_byteOf_11 : decode cX12_byteOf 11 = .ok (.isub, 1) := by decide +kernel
theorem dX12_byteOf_12 : decode cX12_byteOf 12 = .ok (.istore_n 3, 1) := by decide +kernel
theorem dX12_byteOf_13 : decode cX12_byteOf 13 = .ok (.iload_n 3, 1) := by decide +kernel
theorem dX12_byteOf_14 : decode cX12_byteOf 14 = .ok (.ifCond .ge 7, 3) := by decide +kernel
theorem dX12_byteOf_17 : decode cX12_byteOf 17 = .ok (.iconst 0, 1) := by decide +kernel
theorem dX12_byteOf_18 : decode cX12_byteOf 18 = .ok (.goto 23, 3) := by decide +kernel
theorem dX12_byteOf_21 : decode cX12_byteOf 21 = .ok (.aload_n 0, 1) := by decide +kernel
theorem dX12_byteOf_22 : decode cX12_byteOf 22 = .ok (.getfield 102, 3) := by decide +kernel
theorem dX12_byteOf_25 : decode cX12_byteOf 25 = .ok (.sipush 256, 3) := by decide +kernel
theorem dX12_byteOf_28 : decode cX12_byteOf 28 = .ok (.iload_n 3, 1) := by decide +kernel
theorem dX12_byteOf_29 : decode cX12_byteOf 29 = .ok (.imul, 1) := by decide +kernel
theorem dX12_byteOf_30 : decode cX12_byteOf 30 = .ok (.iload_n 2, 1) := by decide +kernel
theorem dX12_byteOf_31 : decode cX12_byteOf 31 = .ok (.sipush 256, 3) := by decide +kernel
theorem dX12_byteOf_34 : decode cX12_byteOf 34 = .ok (.irem, 1) := by decide +kernel
theorem dX12_byteOf_35 : decode cX12_byteOf 35 = .ok (.iadd, 1) := by decide +kernel
theorem dX12_byteOf_36 : decode cX12_byteOf 36 = .ok (.baload, 1) := by decide +kernel
theorem dX12_byteOf_37 : decode cX12_byteOf 37 = .ok (.sipush 255, 3) := by decide +kernel
theorem dX12_byteOf_40 : decode cX12_byteOf 40 = .ok (.iand, 1) := by decide +kernel
theorem dX12_byteOf_41 : decode cX12_byteOf 41 = .ok (.ireturn, 1) := by decide +kernel
def J_X12_byteOf_41 (b0 fu : Nat)  (s0 : Int32) (σ : tM) : Option ((Int32) × tM) := some (s0, σ)
def m_X12_byteOf (b0 fu : Nat) (a0 : Nat) (p0 : Int32) (p1 : Int32) (σ : tM) : Option ((Int32) × tM) := grw σ (ckO b0 (σ) (a0) 11 (cll (m_X12_has b0 fu (a0) (p0) ((p1) / (256)) (σ)) (fun v3 ρ4 => ltb (((v3) - (1) : Int32)) (fun y6 => if (0) ≤ (y6) then ckO b0 (ρ4) (a0) 11 (osm (tA (ρ4) (a0) 22) (fun a10 => ckR b0 (ρ4) (a10) 1 (fun n14 => ckI (((256) * (y6)) + ((p1) - (p1) / (256) * (256))) (n14) (J_X12_byteOf_41 b0 fu   ((tI (ρ4) (a10) ((((256) * (y6)) + ((p1) - (p1) / (256) * (256))).toNatClampNeg)) &&& (255)) (ρ4))))) else J_X12_byteOf_41 b0 fu   (0) (ρ4)))))
set_option maxRecDepth 100000 in
set_option maxHeartbeats 1000000 in
theorem j_X12_byteOf_41 {p : Program} {l : Launch} {e : Env} {s : State} {m : MethodId} {args : Array Value} {below : List Frame} {meth : Method} {c : Code} {D : va_G} {aC : Nat → ClassId} {b0 fu : Nat} {σ0 τ : tM} {v : Int32}  (C : tCx p l s m args meth c yX12_byteOf.cls cX12_byteOf 4 (some .int) D aC b0 σ0) (htab : ∀ x ∈ c.exceptionTable.toList, False) (hin : meth.name = yX12_byteOf.name)  {s0 : Int32} {σ : tM} (hm : J_X12_byteOf_41 b0 fu  s0 σ = some (v, τ)) : tX p l e s m args below meth c 4 4 89 D aC b0 σ0 (.inl (some (.int v))) τ 41 [] [.int (s0)] σ := by
  unfold J_X12_byteOf_41 at hm
  obtain ⟨rfl, rfl⟩ := ret_e hm
  exact zx_iret C rfl rfl rfl dX12_byteOf_41
set_option maxRecDepth 100000 in
set_option maxHeartbeats 1000000 in
theorem c_X12_byteOf {l : Launch} {D : va_G} {aC : Nat → ClassId} {b0 fu : Nat} {a0 : Nat} {p0 : Int32} {p1 : Int32} {σ τ : tM} {v : Int32} (hm : m_X12_byteOf b0 fu a0 p0 p1 σ = some (v, τ)) : tMt l D aC b0 yX12_byteOf (Cond.code yX12_byteOf cX12_byteOf 4 (some .int)) 4 89 [.ref (a0), .int (p0), .int (p1)] σ (.inl (some (.int v))) τ := by
  unfold m_X12_byteOf at hm
  obtain ⟨hg, hm⟩ := grw_e hm
  refine tMt_of (n := 0) rfl (Nat.le_of_ble_eq_true rfl) hg ?_
  intro p e s m below meth c C htab hin
  refine zx_lv [0, 1, 2] [(0, .ref (a0)), (1, .int (p0)), (2, .int (p1))] rfl ?_
  refine zx_aload_n C dX12_byteOf_0 0 rfl ?_
  refine zx_iload_n C dX12_byteOf_1 1 rfl ?_
  refine zx_iload_n C dX12_byteOf_2 2 rfl ?_
  refine zx_sipush (v := 256) C dX12_byteOf_3 (by decide) ?_
  refine zx_idiv C dX12_byteOf_6 (by decide) ?_
  obtain ⟨k1, i2, hm⟩ := ckO_e hm
  obtain ⟨v3, ρ4, h5, hm⟩ := cll_e hm
  refine zx_callV (σ := σ) C [.int (p0), .int ((p1) / (256))] tC_11 k1 i2 Y_X12_has W_8_60 W_8_62 Wp_85 (c_X12_has h5) (by decide) (by decide) rfl (Nat.le_of_ble_eq_true rfl) dX12_byteOf_7 rfl ?_
  refine zx_iconst (v := 1) C dX12_byteOf_10 (by decide) ?_
  refine zx_isub C dX12_byteOf_11 ?_
  refine zx_topi (fun y6 hy6 => ?_)
  replace hm := ltb_e hm hy6
  refine zx_istore_n C [(3, .int (y6)), (0, .ref (a0)), (1, .int (p0)), (2, .int (p1))] dX12_byteOf_12 rfl (by decide) rfl ?_
  refine zx_iload_n C dX12_byteOf_13 0 rfl ?_
  refine zx_if_ge C 21 dX12_byteOf_14 (by decide) (fun c7 => ?_) (fun c7 => ?_)
  · replace hm := ip_e hm c7
    refine zx_aload_n C dX12_byteOf_21 1 rfl ?_
    obtain ⟨k8, i9, hm⟩ := ckO_e hm
    obtain ⟨a10, h11, hm⟩ := osm_e hm
    refine zx_get (j := 22) C tC_11 k8 i9 ⟨by decide, Or.inl W_7_1⟩ dX12_byteOf_22 (.ref a10) (rf_s h11) ?_
    refine zx_sipush (v := 256) C dX12_byteOf_25 (by decide) ?_
    refine zx_iload_n C dX12_byteOf_28 0 rfl ?_
    refine zx_imul C dX12_byteOf_29 ?_
    refine zx_iload_n C dX12_byteOf_30 3 rfl ?_
    refine zx_sipush (v := 256) C dX12_byteOf_31 (by decide) ?_
    refine zx_irem C dX12_byteOf_34 (by decide) ?_
    refine zx_iadd C dX12_byteOf_35 ?_
    obtain ⟨n14, k12, i13, hm⟩ := ckR_e hm
    obtain ⟨h15, hm⟩ := ckI_e hm
    refine zx_bald C k12 i13 h15 dX12_byteOf_36 ?_
    refine zx_sipush (v := 255) C dX12_byteOf_37 (by decide) ?_
    refine zx_iand C dX12_byteOf_40 ?_
    exact zx_lv [] [] rfl (j_X12_byteOf_41 C htab hin    hm)
  · replace hm := in_e hm c7
    refine zx_iconst (v := 0) C dX12_byteOf_17 (by decide) ?_
    refine zx_goto C 41 dX12_byteOf_18 (by decide) ?_
    exact zx_lv [] [] rfl (j_X12_byteOf_41 C htab hin    hm)
