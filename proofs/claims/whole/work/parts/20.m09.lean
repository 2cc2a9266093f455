abbrev cX9_standIn : ByteArray := prog_11_method_8_code
def yX9_standIn : MethodName := ⟨"SyncTree$Walker", "standIn", "(I)Z"⟩
theorem Y_X9_standIn : tY yX9_standIn cX9_standIn 5 (some .boolean) 1 := ⟨W_4_131, W_1_7, ⟨by decide +kernel, by decide +kernel⟩, by decide +kernel⟩
theorem dX9_standIn_0 : decode cX9_standIn 0 = .ok (.aload_n 0, 1) := by decide +kernel
theorem dX9_standIn_1 : decode cX9_standIn 1 = .ok (.getfield 15, 3) := by decide +kernel
theorem dX9_standIn_4 : decode cX9_standIn 4 = .ok (.iload_n 1, 1) := by decide +kernel
theorem dX9_standIn_5 : decode cX9_standIn 5 = .ok (.invokevirtual 97, 3) := by decide +kernel
theorem dX9_standIn_8 : decode cX9_standIn 8 = .ok (.istore_n 2, 1) := by decide +kernel
theorem dX9_standIn_9 : decode cX9_standIn 9 = .ok (.aload_n 0, 1) := by decide +kernel
theorem dX9_standIn_10 : decode cX9_standIn 10 = .ok (.getfield 51, 3) := by decide +kernel
theorem dX9_standIn_13 : decode cX9_standIn 13 = .ok (.aload_n 0, 1) := by decide +kernel
theorem dX9_standIn_14 : decode cX9_standIn 14 = .ok (.getfield 63, 3) := by decide +kernel
theorem dX9_standIn_17 : decode cX9_standIn 17 = .ok (.isub, 1) := by decide +kernel
theorem dX9_standIn_18 : decode cX9_standIn 18 = .ok (.istore_n 3, 1) := by decide +kernel
theorem dX9_standIn_19 : decode cX9_standIn 19 = .ok (.aload_n 0, 1) := by decide +kernel
theorem dX9_standIn_20 : decode cX9_standIn 20 = .ok (.getfield 66, 3) := by decide +kernel
theorem dX9_standIn_23 : decode cX9_standIn 23 = .ok (.bipush 8, 2) := by decide +kernel
theorem dX9_standIn_25 : decode cX9_standIn 25 = .ok (.if_icmp .ge 23, 3) := by decide +kernel
theorem dX9_standIn_28 : decode cX9_standIn 28 = .ok (.iload_n 2, 1) := by decide +kernel
theorem dX9_standIn_29 : decode cX9_standIn 29 = .ok (.iconst 1, 1) := by decide +kernel
theorem dX9_standIn_30 : decode cX9_standIn 30 = .ok (.if_icmp .lt 18, 3) := by decide +kernel
theorem dX9_standIn_33 : decode cX9_standIn 33 = .ok (.iload_n 3, 1) := by decide +kernel
theorem dX9_standIn_34 : decode cX9_standIn 34 = .ok (.ifCond .lt 14, 3) := by decide +kernel
theorem dX9_standIn_37 : decode cX9_standIn 37 = .ok (.iload_n 2, 1) := by decide +kernel
theorem dX9_standIn_38 : decode cX9_standIn 38 = .ok (.iload_n 3, 1) := by decide +kernel
theorem dX9_standIn_39 : decode cX9_standIn 39 = .ok (.iadd, 1) := by decide +kernel
theorem dX9_standIn_40 : decode cX9_standIn 40 = .ok (.aload_n 0, 1) := by decide +kernel
theorem dX9_standIn_41 : decode cX9_standIn 41 = .ok (.getfield 11, 3) := by decide +kernel
theorem dX9_standIn_44 : decode cX9_standIn 44 = .ok (.arraylength, 1) := by decide +kernel
theorem dX9_standIn_45 : decode cX9_standIn 45 = .ok (.if_icmp .le 5, 3) := by decide +kernel
theorem dX9_standIn_48 : decode cX9_standIn 48 = .ok (.iconst 0, 1) := by decide +kernel
theorem dX9_standIn_49 : decode cX9_standIn 49 = .ok (.ireturn, 1) := by decide +kernel
theorem dX9_standIn_50 : decode cX9_standIn 50 = .ok (.aload_n 0, 1) := by decide +kernel
theorem dX9_standIn_51 : decode cX9_standIn 51 = .ok (.dup, 1) := by decide +kernel
theorem dX9_standIn_52 : decode cX9_standIn 52 = .ok (.getfield 66, 3) := by decide +kernel
theorem dX9_standIn_55 : decode cX9_standIn 55 = .ok (.iconst 1, 1) := by decide +kernel
theorem dX9_standIn_56 : decode cX9_standIn 56 = .ok (.iadd, 1) := by decide +kernel
theorem dX9_standIn_57 : decode cX9_standIn 57 = .ok (.putfield 66, 3) := by decide +kernel
theorem dX9_standIn_60 : decode cX9_standIn 60 = .ok (.aload_n 0, 1) := by decide +kernel
theorem dX9_standIn_61 : decode cX9_standIn 61 = .ok (.getfield 11, 3) := by decide +kernel
theorem dX9_standIn_64 : decode cX9_standIn 64 = .ok (.aload_n 0, 1) := by decide +kernel
theorem dX9_standIn_65 : decode cX9_standIn 65 = .ok (.getfield 63, 3) := by decide +kernel
theorem dX9_standIn_68 : decode cX9_standIn 68 = .ok (.aload_n 0, 1) := by decide +kernel
theorem dX9_standIn_69 : decode cX9_standIn 69 = .ok (.getfield 11, 3) := by decide +kernel
theorem dX9_standIn_72 : decode cX9_standIn 72 = .ok (.iload_n 2, 1) := by decide +kernel
theorem dX9_standIn_73 : decode cX9_standIn 73 = .ok (.iload_n 3, 1) := by decide +kernel
theorem dX9_standIn_74 : decode cX9_standIn 74 = .ok (.invokestatic 57, 3) := by decide +kernel
theorem dX9_standIn_77 : decode cX9_standIn 77 = .ok (.iconst 0, 1) := by decide +kernel
theorem dX9_standIn_78 : decode cX9_standIn 78 = .ok (.istore 4, 2) := by decide +kernel
theorem dX9_standIn_80 : decode cX9_standIn 80 = .ok (.iload 4, 2) := by decide +kernel
theorem dX9_standIn_82 : decode cX9_standIn 82 = .ok (.iload_n 2, 1) := by decide +kernel
theorem dX9_standIn_83 : decode cX9_standIn 83 = .ok (.if_icmp .ge 27, 3) := by decide +kernel
theorem dX9_standIn_86 : decode cX9_standIn 86 = .ok (.aload_n 0, 1) := by decide +kernel
theorem dX9_standIn_87 : decode cX9_standIn 87 = .ok (.getfield 11, 3) := by decide +kernel
theorem dX9_standIn_90 : decode cX9_standIn 90 = .ok (.iload 4, 2) := by decide +kernel
theorem dX9_standIn_92 : decode cX9_standIn 92 = .ok (.aload_n 0, 1) := by decide +kernel
theorem dX9_standIn_93 : decode cX9_standIn 93 = .ok (.getfield 15, 3) := by decide +kernel
theorem dX9_standIn_96 : decode cX9_standIn 96 = .ok (.iload_n 1, 1) := by decide +kernel
theorem dX9_standIn_97 : decode cX9_standIn 97 = .ok (.iload 4, 2) := by decide +kernel
theorem dX9_standIn_99 : decode cX9_standIn 99 = .ok (.invokevirtual 100, 3) := by decide +kernel
theorem dX9_standIn_102 : decode cX9_standIn 102 = .ok (.i2b, 1) := by decide +kernel
theorem dX9_standIn_103 : decode cX9_standIn 103 = .ok (.bastore, 1) := by decide +kernel
theorem dX9_standIn_104 : decode cX9_standIn 104 = .ok (.iinc 4 1, 3) := by decide +kernel
theorem dX9_standIn_107 : decode cX9_standIn 107 = .ok (.goto (-27), 3) := by decide +kernel
theorem dX9_standIn_110 : decode cX9_standIn 110 = .ok (.aload_n 0, 1) := by decide +kernel
theorem dX9_standIn_111 : decode cX9_standIn 111 = .ok (.iconst 0, 1) := by decide +kernel
theorem dX9_standIn_112 : decode cX9_standIn 112 = .ok (.putfield 63, 3) := by decide +kernel
theorem dX9_standIn_115 : decode cX9_standIn 115 = .ok (.aload_n 0, 1) := by decide +kernel
theorem dX9_standIn_116 : decode cX9_standIn 116 = .ok (.iload_n 2, 1) := by decide +kernel
theorem dX9_standIn_117 : decode cX9_standIn 117 = .ok (.iload_n 3, 1) := by decide +kernel
theorem dX9_standIn_118 : decode cX9_standIn 118 = .ok (.iadd, 1) := by decide +kernel
theorem dX9_standIn_119 : decode cX9_standIn 119 = .ok (.putfield 51, 3) := by decide +kernel
theorem dX9_standIn_122 : decode cX9_standIn 122 = .ok (.iconst 1, 1) := by decide +kernel
theorem dX9_standIn_123 : decode cX9_standIn 123 = .ok (.ireturn, 1) := by decide +kernel
def J_X9_standIn_48 (b0 fu : Nat)   (σ : tM) : Option ((Int32) × tM) := some (0, σ)
def L_X9_standIn_80 (b0 fu : Nat)  : Nat → Nat → Int32 → Int32 → Int32 → Int32 → tM → Option ((Int32) × tM)
  | 0, _, _, _, _, _, _ => none
  | n + 1, x0, x1, x2, x3, x4, σ => ltb (L_X9_standIn_80 b0 fu  n) (fun rc80 => if (x2) ≤ (x4) then ckO b0 (σ) (x0) 9 (some (1, sI (sI (σ) (x0) 2 (0)) (x0) 3 ((x2) + (x3)))) else ckO b0 (σ) (x0) 9 (osm (tA (σ) (x0) 1) (fun a48 => osm (tA (σ) (x0) 0) (fun a50 => ckO b0 (σ) (a50) 8 (cll (m_X8_textOctet b0 fu (a50) (x1) (x4) (σ)) (fun v54 ρ55 => ckR b0 (ρ55) (a48) 1 (fun n59 => ckI (x4) (n59) (ltb ((x4) + Int32.ofInt 1) (fun y61 => rc80 (x0) (x1) (x2) (x3) (y61) (sI (ρ55) (a48) ((x4).toNatClampNeg) (vp_nar .byte ((v54).toInt8.toInt32))))))))))))
def m_X9_standIn (b0 fu : Nat) (a0 : Nat) (p0 : Int32) (σ : tM) : Option ((Int32) × tM) := grw σ (ckO b0 (σ) (a0) 9 (osm (tA (σ) (a0) 0) (fun a3 => ckO b0 (σ) (a3) 8 (cll (m_X8_size b0 fu (a3) (p0) (σ)) (fun v7 ρ8 => ckO b0 (ρ8) (a0) 9 (ltb (((tI (ρ8) (a0) 3) - (tI (ρ8) (a0) 2) : Int32)) (fun y12 => if (8) ≤ (tI (ρ8) (a0) 4) then J_X9_standIn_48 b0 fu    (ρ8) else if (v7) < (1) then J_X9_standIn_48 b0 fu    (ρ8) else if (y12) < (0) then J_X9_standIn_48 b0 fu    (ρ8) else osm (tA (ρ8) (a0) 1) (fun a16 => ckR b0 (ρ8) (a16) 1 (fun n20 => if ((v7) + (y12)) ≤ (nI n20) then osm (tA (sI (ρ8) (a0) 4 ((tI (ρ8) (a0) 4) + (1))) (a0) 1) (fun a22 => osm (tA (sI (ρ8) (a0) 4 ((tI (ρ8) (a0) 4) + (1))) (a0) 1) (fun a24 => ckR b0 (sI (ρ8) (a0) 4 ((tI (ρ8) (a0) 4) + (1))) (a22) 1 (fun n28 => ckR b0 (sI (ρ8) (a0) 4 ((tI (ρ8) (a0) 4) + (1))) (a24) 1 (fun n31 => ckC (tI (sI (ρ8) (a0) 4 ((tI (ρ8) (a0) 4) + (1))) (a0) 2) (v7) (y12) (n28) (n31) (ckF (tI (sI (ρ8) (a0) 4 ((tI (ρ8) (a0) 4) + (1))) (a22)) (tI (sI (ρ8) (a0) 4 ((tI (ρ8) (a0) 4) + (1))) (a0) 2) (y12) (ltb (sIr (sI (ρ8) (a0) 4 ((tI (ρ8) (a0) 4) + (1))) (a24) (va_cpy (tI (sI (ρ8) (a0) 4 ((tI (ρ8) (a0) 4) + (1))) (a22)) (tI (sI (ρ8) (a0) 4 ((tI (ρ8) (a0) 4) + (1))) (a24)) ((tI (sI (ρ8) (a0) 4 ((tI (ρ8) (a0) 4) + (1))) (a0) 2).toNatClampNeg) ((v7).toNatClampNeg) ((y12).toNatClampNeg))) (fun ρ34 => L_X9_standIn_80 b0 fu  (fu) (a0) (p0) (v7) (y12) (0) (ρ34)))))))) else J_X9_standIn_48 b0 fu    (ρ8))))))))))
set_option maxRecDepth 100000 in
set_option maxHeartbeats 1000000 in
theorem j_X9_standIn_48 {p : Program} {l : Launch} {e : Env} {s : State} {m : MethodId} {args : Array Value} {below : List Frame} {meth : Method} {c : Code} {D : va_G} {aC : Nat → ClassId} {b0 fu : Nat} {σ0 τ : tM} {v : Int32}  (C : tCx p l s m args meth c yX9_standIn.cls cX9_standIn 5 (some .boolean) D aC b0 σ0) (htab : ∀ x ∈ c.exceptionTable.toList, False) (hin : meth.name = yX9_standIn.name)   {σ : tM} (hm : J_X9_standIn_48 b0 fu   σ = some (v, τ)) : tX p l e s m args below meth c 5 2 44 D aC b0 σ0 (.inl (some (.int v))) τ 48 [] [] σ := by
  unfold J_X9_standIn_48 at hm
  refine zx_iconst (v := 0) C dX9_standIn_48 (by decide) ?_
  obtain ⟨rfl, rfl⟩ := ret_e hm
  exact zx_zret C rfl (by decide) rfl rfl dX9_standIn_49
set_option maxRecDepth 100000 in
set_option maxHeartbeats 1000000 in
theorem l_X9_standIn_80 {p : Program} {l : Launch} {e : Env} {s : State} {m : MethodId} {args : Array Value} {below : List Frame} {meth : Method} {c : Code} {D : va_G} {aC : Nat → ClassId} {b0 fu : Nat} {σ0 τ : tM} {v : Int32}  (C : tCx p l s m args meth c yX9_standIn.cls cX9_standIn 5 (some .boolean) D aC b0 σ0) (htab : ∀ x ∈ c.exceptionTable.toList, False) (hin : meth.name = yX9_standIn.name)  : ∀ (n : Nat) (x0 : Nat) (x1 : Int32) (x2 : Int32) (x3 : Int32) (x4 : Int32) (σ : tM), L_X9_standIn_80 b0 fu  n x0 x1 x2 x3 x4 σ = some (v, τ) → tX p l e s m args below meth c 5 2 44 D aC b0 σ0 (.inl (some (.int v))) τ 80 [(0, .ref (x0)), (1, .int (x1)), (2, .int (x2)), (3, .int (x3)), (4, .int (x4))] [] σ := by
  intro n
  induction n with
  | zero => intro x0 x1 x2 x3 x4 σ hm; unfold L_X9_standIn_80 at hm; cases hm
  | succ n ih =>
    intro x0 x1 x2 x3 x4 σ hm
    unfold L_X9_standIn_80 at hm
    obtain ⟨rc80, hrc⟩ : ∃ z, z = L_X9_standIn_80 b0 fu  n := ⟨_, rfl⟩
    replace hm := ltb_e hm hrc
    rw [← hrc] at ih
    have hrc80 := ih
    clear ih hrc
    refine zx_iload C dX9_standIn_80 4 rfl ?_
    refine zx_iload_n C dX9_standIn_82 2 rfl ?_
    refine zx_icmp_ge C 110 dX9_standIn_83 (by decide) (fun c43 => ?_) (fun c43 => ?_)
    · replace hm := ip_e hm c43
      refine zx_aload_n C dX9_standIn_110 0 rfl ?_
      refine zx_iconst (v := 0) C dX9_standIn_111 (by decide) ?_
      obtain ⟨k44, i45, hm⟩ := ckO_e hm
      refine zx_put (j := 2) (ρ := sI (σ) (x0) 2 (0)) C tC_9 k44 i45 ⟨by decide, Or.inl W_2_22⟩ rfl rfl rfl (sI_ok (fun _ => rfl)) dX9_standIn_112 ?_
      refine zx_aload_n C dX9_standIn_115 0 rfl ?_
      refine zx_iload_n C dX9_standIn_116 2 rfl ?_
      refine zx_iload_n C dX9_standIn_117 3 rfl ?_
      refine zx_iadd C dX9_standIn_118 ?_
      refine zx_put (j := 3) (ρ := sI (sI (σ) (x0) 2 (0)) (x0) 3 ((x2) + (x3))) C tC_9 k44 i45 ⟨by decide, Or.inl W_2_23⟩ rfl rfl rfl (sI_ok (fun _ => rfl)) dX9_standIn_119 ?_
      refine zx_iconst (v := 1) C dX9_standIn_122 (by decide) ?_
      obtain ⟨rfl, rfl⟩ := ret_e hm
      exact zx_zret C rfl (by decide) rfl rfl dX9_standIn_123
    · replace hm := in_e hm c43
      refine zx_aload_n C dX9_standIn_86 0 rfl ?_
      obtain ⟨k46, i47, hm⟩ := ckO_e hm
      obtain ⟨a48, h49, hm⟩ := osm_e hm
      refine zx_get (j := 1) C tC_9 k46 i47 ⟨by decide, Or.inl W_2_21⟩ dX9_standIn_87 (.ref a48) (rf_s h49) ?_
      refine zx_iload C dX9_standIn_90 4 rfl ?_
      refine zx_aload_n C dX9_standIn_92 0 rfl ?_
      obtain ⟨a50, h51, hm⟩ := osm_e hm
      refine zx_get (j := 0) C tC_9 k46 i47 ⟨by decide, Or.inl W_2_20⟩ dX9_standIn_93 (.ref a50) (rf_s h51) ?_
      refine zx_iload_n C dX9_standIn_96 1 rfl ?_
      refine zx_iload C dX9_standIn_97 4 rfl ?_
      obtain ⟨k52, i53, hm⟩ := ckO_e hm
      obtain ⟨v54, ρ55, h56, hm⟩ := cll_e hm
      refine zx_callV (σ := σ) C [.int (x1), .int (x4)] tC_8 k52 i53 Y_X8_textOctet W_4_136 W_4_137 W_4_138 (c_X8_textOctet h56) (by decide) (by decide) rfl (Nat.le_of_ble_eq_true rfl) dX9_standIn_99 rfl ?_
      refine zx_i2b C dX9_standIn_102 ?_
      obtain ⟨n59, k57, i58, hm⟩ := ckR_e hm
      obtain ⟨h60, hm⟩ := ckI_e hm
      refine zx_bast C k57 i58 h60 dX9_standIn_103 ?_
      obtain ⟨y61, hy61⟩ : ∃ z : Int32, z = (x4) + Int32.ofInt 1 := ⟨_, rfl⟩
      replace hm := ltb_e hm hy61
      refine zx_iinc C [(4, .int (y61)), (0, .ref (x0)), (1, .int (x1)), (2, .int (x2)), (3, .int (x3))] dX9_standIn_104 4 rfl hy61.symm (by decide) rfl ?_
      refine zx_goto C 80 dX9_standIn_107 (by decide) ?_
      exact zx_lv [1, 2, 3, 4, 0] [(0, .ref (x0)), (1, .int (x1)), (2, .int (x2)), (3, .int (x3)), (4, .int (y61))] rfl (hrc80 _ _ _ _ _ _ hm)
set_option maxRecDepth 100000 in
set_option maxHeartbeats 1000000 in
theorem c_X9_standIn {l : Launch} {D : va_G} {aC : Nat → ClassId} {b0 fu : Nat} {a0 : Nat} {p0 : Int32} {σ τ : tM} {v : Int32} (hm : m_X9_standIn b0 fu a0 p0 σ = some (v, τ)) : tMt l D aC b0 yX9_standIn (Cond.code yX9_standIn cX9_standIn 5 (some .boolean)) 2 44 [.ref (a0), .int (p0)] σ (.inl (some (.int v))) τ := by
  unfold m_X9_standIn at hm
  obtain ⟨hg, hm⟩ := grw_e hm
  refine tMt_of (n := 0) rfl (Nat.le_of_ble_eq_true rfl) hg ?_
  intro p e s m below meth c C htab hin
  refine zx_lv [0, 1] [(0, .ref (a0)), (1, .int (p0))] rfl ?_
  refine zx_aload_n C dX9_standIn_0 0 rfl ?_
  obtain ⟨k1, i2, hm⟩ := ckO_e hm
  obtain ⟨a3, h4, hm⟩ := osm_e hm
  refine zx_get (j := 0) C tC_9 k1 i2 ⟨by decide, Or.inl W_2_20⟩ dX9_standIn_1 (.ref a3) (rf_s h4) ?_
  refine zx_iload_n C dX9_standIn_4 1 rfl ?_
  obtain ⟨k5, i6, hm⟩ := ckO_e hm
  obtain ⟨v7, ρ8, h9, hm⟩ := cll_e hm
  refine zx_callV (σ := σ) C [.int (p0)] tC_8 k5 i6 Y_X8_size W_4_132 W_4_133 W_4_134 (c_X8_size h9) (by decide) (by decide) rfl (Nat.le_of_ble_eq_true rfl) dX9_standIn_5 rfl ?_
  refine zx_istore_n C [(2, .int (v7)), (0, .ref (a0)), (1, .int (p0))] dX9_standIn_8 rfl (by decide) rfl ?_
  refine zx_aload_n C dX9_standIn_9 1 rfl ?_
  obtain ⟨k10, i11, hm⟩ := ckO_e hm
  refine zx_get (j := 3) C tC_9 k10 i11 ⟨by decide, Or.inl W_2_23⟩ dX9_standIn_10 (.int (tI (ρ8) (a0) 3)) rfl ?_
  refine zx_aload_n C dX9_standIn_13 1 rfl ?_
  refine zx_get (j := 2) C tC_9 k10 i11 ⟨by decide, Or.inl W_2_22⟩ dX9_standIn_14 (.int (tI (ρ8) (a0) 2)) rfl ?_
  refine zx_isub C dX9_standIn_17 ?_
  refine zx_topi (fun y12 hy12 => ?_)
  replace hm := ltb_e hm hy12
  refine zx_istore_n C [(3, .int (y12)), (2, .int (v7)), (0, .ref (a0)), (1, .int (p0))] dX9_standIn_18 rfl (by decide) rfl ?_
  refine zx_aload_n C dX9_standIn_19 2 rfl ?_
  refine zx_get (j := 4) C tC_9 k10 i11 ⟨by decide, Or.inl W_2_24⟩ dX9_standIn_20 (.int (tI (ρ8) (a0) 4)) rfl ?_
  refine zx_bipush (v := 8) C dX9_standIn_23 (by decide) ?_
  refine zx_icmp_ge C 48 dX9_standIn_25 (by decide) (fun c13 => ?_) (fun c13 => ?_)
  · replace hm := ip_e hm c13
    exact zx_lv [] [] rfl (j_X9_standIn_48 C htab hin    hm)
  · replace hm := in_e hm c13
    refine zx_iload_n C dX9_standIn_28 1 rfl ?_
    refine zx_iconst (v := 1) C dX9_standIn_29 (by decide) ?_
    refine zx_icmp_lt C 48 dX9_standIn_30 (by decide) (fun c14 => ?_) (fun c14 => ?_)
    · replace hm := ip_e hm c14
      exact zx_lv [] [] rfl (j_X9_standIn_48 C htab hin    hm)
    · replace hm := in_e hm c14
      refine zx_iload_n C dX9_standIn_33 0 rfl ?_
      refine zx_if_lt C 48 dX9_standIn_34 (by decide) (fun c15 => ?_) (fun c15 => ?_)
      · replace hm := ip_e hm c15
        exact zx_lv [] [] rfl (j_X9_standIn_48 C htab hin    hm)
      · replace hm := in_e hm c15
        refine zx_iload_n C dX9_standIn_37 1 rfl ?_
        refine zx_iload_n C dX9_standIn_38 0 rfl ?_
        refine zx_iadd C dX9_standIn_39 ?_
        refine zx_aload_n C dX9_standIn_40 2 rfl ?_
        obtain ⟨a16, h17, hm⟩ := osm_e hm
        refine zx_get (j := 1) C tC_9 k10 i11 ⟨by decide, Or.inl W_2_21⟩ dX9_standIn_41 (.ref a16) (rf_s h17) ?_
        obtain ⟨n20, k18, i19, hm⟩ := ckR_e hm
        refine zx_alen C k18 (by decide) i19 dX9_standIn_44 ?_
        refine zx_icmp_le C 50 dX9_standIn_45 (by decide) (fun c21 => ?_) (fun c21 => ?_)
        · replace hm := ip_e hm c21
          refine zx_aload_n C dX9_standIn_50 2 rfl ?_
          refine zx_dup C dX9_standIn_51 rfl ?_
          refine zx_get (j := 4) C tC_9 k10 i11 ⟨by decide, Or.inl W_2_24⟩ dX9_standIn_52 (.int (tI (ρ8) (a0) 4)) rfl ?_
          refine zx_iconst (v := 1) C dX9_standIn_55 (by decide) ?_
          refine zx_iadd C dX9_standIn_56 ?_
          refine zx_put (j := 4) (ρ := sI (ρ8) (a0) 4 ((tI (ρ8) (a0) 4) + (1))) C tC_9 k10 i11 ⟨by decide, Or.inl W_2_24⟩ rfl rfl rfl (sI_ok (fun _ => rfl)) dX9_standIn_57 ?_
          refine zx_aload_n C dX9_standIn_60 2 rfl ?_
          obtain ⟨a22, h23, hm⟩ := osm_e hm
          refine zx_get (j := 1) C tC_9 k10 i11 ⟨by decide, Or.inl W_2_21⟩ dX9_standIn_61 (.ref a22) (rf_s h23) ?_
          refine zx_aload_n C dX9_standIn_64 2 rfl ?_
          refine zx_get (j := 2) C tC_9 k10 i11 ⟨by decide, Or.inl W_2_22⟩ dX9_standIn_65 (.int (tI (sI (ρ8) (a0) 4 ((tI (ρ8) (a0) 4) + (1))) (a0) 2)) rfl ?_
          refine zx_aload_n C dX9_standIn_68 2 rfl ?_
          obtain ⟨a24, h25, hm⟩ := osm_e hm
          refine zx_get (j := 1) C tC_9 k10 i11 ⟨by decide, Or.inl W_2_21⟩ dX9_standIn_69 (.ref a24) (rf_s h25) ?_
          refine zx_iload_n C dX9_standIn_72 1 rfl ?_
          refine zx_iload_n C dX9_standIn_73 0 rfl ?_
          obtain ⟨n28, k26, i27, hm⟩ := ckR_e hm
          obtain ⟨n31, k29, i30, hm⟩ := ckR_e hm
          obtain ⟨h32, hm⟩ := ckC_e hm
          obtain ⟨h62, hm⟩ := ckF_e hm
          refine zx_copyB (σ := sI (ρ8) (a0) 4 ((tI (ρ8) (a0) 4) + (1))) C W_4_79 W_2_135 W_2_134 W_1_11 k26 i27 k29 i30 h32 h62 (by decide) (by decide) (Nat.le_of_ble_eq_true rfl) dX9_standIn_74 ?_
          refine zx_mem (fun ρ34 hρ34 => ?_)
          replace hm := ltb_e hm hρ34
          have k35 : tk ρ34 (a0) = .inl 9 := by rw [hρ34]; exact k10
          have i36 : tIn b0 ρ34 (a0) := by rw [hρ34]; exact i11
          have k37 : tk ρ34 (a16) = .inr (1, n20) := by rw [hρ34]; exact k18
          have i38 : tIn b0 ρ34 (a16) := by rw [hρ34]; exact i19
          have k39 : tk ρ34 (a22) = .inr (1, n28) := by rw [hρ34]; exact k26
          have i40 : tIn b0 ρ34 (a22) := by rw [hρ34]; exact i27
          have k41 : tk ρ34 (a24) = .inr (1, n31) := by rw [hρ34]; exact k29
          have i42 : tIn b0 ρ34 (a24) := by rw [hρ34]; exact i30
          refine zx_iconst (v := 0) C dX9_standIn_77 (by decide) ?_
          refine zx_istore C [(4, .int (0)), (3, .int (y12)), (2, .int (v7)), (0, .ref (a0)), (1, .int (p0))] dX9_standIn_78 (by decide) rfl ?_
          exact zx_lv [3, 4, 2, 1, 0] [(0, .ref (a0)), (1, .int (p0)), (2, .int (v7)), (3, .int (y12)), (4, .int (0))] rfl (l_X9_standIn_80 C htab hin  _ _ _ _ _ _ _ hm)
        · replace hm := in_e hm c21
          exact zx_lv [] [] rfl (j_X9_standIn_48 C htab hin    hm)
abbrev cX10_feed : ByteArray := prog_1_method_4_code
def yX10_feed : MethodName := ⟨"SyncTree", "feed", "(IIIII)I"⟩
theorem Y_X10_feed : tY yX10_feed cX10_feed 6 (some .int) 5 := ⟨W_3_11, W_1_1, ⟨by decide +kernel, by decide +kernel⟩, by decide +kernel⟩
theorem dX10_feed_0 : decode cX10_feed 0 = .ok (.aload_n 0, 1) := by decide +kernel
theorem dX10_feed_1 : decode cX10_feed 1 = .ok (.getfield 62, 3) := by decide +kernel
theorem dX10_feed_4 : decode cX10_feed 4 = .ok (.invokevirtual 108, 3) := by decide +kernel
theorem dX10_feed_7 : decode cX10_feed 7 = .ok (.ifCond .ne 6, 3) := by decide +kernel
theorem dX10_feed_10 : decode cX10_feed 10 = .ok (.bipush (-9), 2) := by decide +kernel
theorem dX10_feed_12 : decode cX10_feed 12 = .ok (.ireturn, 1) := by decide +kernel
theorem dX10_feed_13 : decode cX10_feed 13 = .ok (.aload_n 0, 1) := by decide +kernel
theorem dX10_feed_14 : decode cX10_feed 14 = .ok (.getfield 62, 3) := by decide +kernel
theorem dX10_feed_17 : decode cX10_feed 17 = .ok (.iload_n 1, 1) := by decide +kernel
theorem dX10_feed_18 : decode cX10_feed 18 = .ok (.invokevirtual 112, 3) := by decide +kernel
theorem dX10_feed_21 : decode cX10_feed 21 = .ok (.aload_n 0, 1) := by decide +kernel
theorem dX10_feed_22 : decode cX10_feed 22 = .ok (.getfield 62, 3) := by decide +kernel
theorem dX10_feed_25 : decode cX10_feed 25 = .ok (.iload_n 2, 1) := by decide +kernel
theorem dX10_feed_26 : decode cX10_feed 26 = .ok (.invokevirtual 112, 3) := by decide +kernel
theorem dX10_feed_29 : decode cX10_feed 29 = .ok (.aload_n 0, 1) := by decide +kernel
theorem dX10_feed_30 : decode cX10_feed 30 = .ok (.getfield 62, 3) := by decide +kernel
theorem dX10_feed_33 : decode cX10_feed 33 = .ok (.iload_n 3, 1) := by decide +kernel
theorem dX10_feed_34 : decode cX10_feed 34 = .ok (.invokevirtual 112, 3) := by decide +kernel
theorem dX10_feed_37 : decode cX10_feed 37 = .ok (.aload_n 0, 1) := by decide +kernel
theorem dX10_feed_38 : decode cX10_feed 38 = .ok (.getfield 62, 3) := by decide +kernel
theorem dX10_feed_41 : decode cX10_feed 41 = .ok (.iload 4, 2) := by decide +kernel
theorem dX10_feed_43 : decode cX10_feed 43 = .ok (.invokevirtual 112, 3) := by decide +kernel
theorem dX10_feed_46 : decode cX10_feed 46 = .ok (.aload_n 0, 1) := by decide +kernel
theorem dX10_feed_47 : decode cX10_feed 47 = .ok (.getfield 62, 3) := by decide +kernel
theorem dX10_feed_50 : decode cX10_feed 50 = .ok (.iload 5, 2) := by decide +kernel
theorem dX10_feed_52 : decode cX10_feed 52 = .ok (.invokevirtual 112, 3) := by decide +kernel
theorem dX10_feed_55 : decode cX10_feed 55 = .ok (.aload_n 0, 1) := by decide +kernel
theorem dX10_feed_56 : decode cX10_feed 56 = .ok (.getfield 62, 3) := by decide +kernel
theorem dX10_feed_59 : decode cX10_feed 59 = .ok (.getfield 115, 3) := by decide +kernel
theorem dX10_feed_62 : decode cX10_feed 62 = .ok (.ireturn, 1) := by decide +kernel
def m_X10_feed (b0 fu : Nat) (a0 : Nat) (p0 : Int32) (p1 : Int32) (p2 : Int32) (p3 : Int32) (p4 : Int32) (σ : tM) : Option ((Int32) × tM) := grw σ (ckO b0 (σ) (a0) 10 (osm (tA (σ) (a0) 6) (fun a3 => ckO b0 (σ) (a3) 6 (cll (m_X6_hasSpace b0 fu (a3) (σ)) (fun v7 ρ8 => if (v7) = (0) then some ((-9), ρ8) else ckO b0 (ρ8) (a0) 10 (osm (tA (ρ8) (a0) 6) (fun a13 => ckO b0 (ρ8) (a13) 6 (cll (m_X6_append b0 fu (a13) (p0) (ρ8)) (fun v17 ρ18 => ckO b0 (ρ18) (a0) 10 (osm (tA (ρ18) (a0) 6) (fun a22 => ckO b0 (ρ18) (a22) 6 (cll (m_X6_append b0 fu (a22) (p1) (ρ18)) (fun v26 ρ27 => ckO b0 (ρ27) (a0) 10 (osm (tA (ρ27) (a0) 6) (fun a31 => ckO b0 (ρ27) (a31) 6 (cll (m_X6_append b0 fu (a31) (p2) (ρ27)) (fun v35 ρ36 => ckO b0 (ρ36) (a0) 10 (osm (tA (ρ36) (a0) 6) (fun a40 => ckO b0 (ρ36) (a40) 6 (cll (m_X6_append b0 fu (a40) (p3) (ρ36)) (fun v44 ρ45 => ckO b0 (ρ45) (a0) 10 (osm (tA (ρ45) (a0) 6) (fun a49 => ckO b0 (ρ45) (a49) 6 (cll (m_X6_append b0 fu (a49) (p4) (ρ45)) (fun v53 ρ54 => ckO b0 (ρ54) (a0) 10 (osm (tA (ρ54) (a0) 6) (fun a58 => ckO b0 (ρ54) (a58) 6 (some (tI (ρ54) (a58) 1, ρ54)))))))))))))))))))))))))))))
set_option maxRecDepth 100000 in
set_option maxHeartbeats 1000000 in
theorem c_X10_feed {l : Launch} {D : va_G} {aC : Nat → ClassId} {b0 fu : Nat} {a0 : Nat} {p0 : Int32} {p1 : Int32} {p2 : Int32} {p3 : Int32} {p4 : Int32} {σ τ : tM} {v : Int32} (hm : m_X10_feed b0 fu a0 p0 p1 p2 p3 p4 σ = some (v, τ)) : tMt l D aC b0 yX10_feed (Cond.code yX10_feed cX10_feed 6 (some .int)) 1 22 [.ref (a0), .int (p0), .int (p1), .int (p2), .int (p3), .int (p4)] σ (.inl (some (.int v))) τ := by
  unfold m_X10_feed at hm
  obtain ⟨hg, hm⟩ := grw_e hm
  refine tMt_of (n := 0) rfl (Nat.le_of_ble_eq_true rfl) hg ?_
  intro p e s m below meth c C htab hin
  refine zx_lv [0, 1, 2, 3, 4, 5] [(0, .ref (a0)), (1, .int (p0)), (2, .int (p1)), (3, .int (p2)), (4, .int (p3)), (5, .int (p4))] rfl ?_
  refine zx_aload_n C dX10_feed_0 0 rfl ?_
  obtain ⟨k1, i2, hm⟩ := ckO_e hm
  obtain ⟨a3, h4, hm⟩ := osm_e hm
  refine zx_get (j := 6) C tC_10 k1 i2 ⟨by decide, Or.inl W_2_219⟩ dX10_feed_1 (.ref a3) (rf_s h4) ?_
  obtain ⟨k5, i6, hm⟩ := ckO_e hm
  obtain ⟨v7, ρ8, h9, hm⟩ := cll_e hm
  refine zx_callV (σ := σ) C [] tC_6 k5 i6 Y_X6_hasSpace W_3_12 W_3_13 W_3_14 (c_X6_hasSpace h9) (by decide) (by decide) rfl (Nat.le_of_ble_eq_true rfl) dX10_feed_4 rfl ?_
  refine zx_if_ne C 13 dX10_feed_7 (by decide) (fun c10 => ?_) (fun c10 => ?_)
  · replace hm := in_e hm c10
    refine zx_aload_n C dX10_feed_13 0 rfl ?_
    obtain ⟨k11, i12, hm⟩ := ckO_e hm
    obtain ⟨a13, h14, hm⟩ := osm_e hm
    refine zx_get (j := 6) C tC_10 k11 i12 ⟨by decide, Or.inl W_2_219⟩ dX10_feed_14 (.ref a13) (rf_s h14) ?_
    refine zx_iload_n C dX10_feed_17 1 rfl ?_
    obtain ⟨k15, i16, hm⟩ := ckO_e hm
    obtain ⟨v17, ρ18, h19, hm⟩ := cll_e hm
    refine zx_callV (σ := ρ8) C [.int (p0)] tC_6 k15 i16 Y_X6_append W_3_16 W_3_17 W_3_18 (c_X6_append h19) (by decide) (by decide) rfl (Nat.le_of_ble_eq_true rfl) dX10_feed_18 rfl ?_
    refine zx_aload_n C dX10_feed_21 0 rfl ?_
    obtain ⟨k20, i21, hm⟩ := ckO_e hm
    obtain ⟨a22, h23, hm⟩ := osm_e hm
    refine zx_get (j := 6) C tC_10 k20 i21 ⟨by decide, Or.inl W_2_219⟩ dX10_feed_22 (.ref a22) (rf_s h23) ?_
    refine zx_iload_n C dX10_feed_25 2 rfl ?_
    obtain ⟨k24, i25, hm⟩ := ckO_e hm
    obtain ⟨v26, ρ27, h28, hm⟩ := cll_e hm
    refine zx_callV (σ := ρ18) C [.int (p1)] tC_6 k24 i25 Y_X6_append W_3_16 W_3_17 W_3_18 (c_X6_append h28) (by decide) (by decide) rfl (Nat.le_of_ble_eq_true rfl) dX10_feed_26 rfl ?_
    refine zx_aload_n C dX10_feed_29 0 rfl ?_
    obtain ⟨k29, i30, hm⟩ := ckO_e hm
    obtain ⟨a31, h32, hm⟩ := osm_e hm
    refine zx_get (j := 6) C tC_10 k29 i30 ⟨by decide, Or.inl W_2_219⟩ dX10_feed_30 (.ref a31) (rf_s h32) ?_
    refine zx_iload_n C dX10_feed_33 3 rfl ?_
    obtain ⟨k33, i34, hm⟩ := ckO_e hm
    obtain ⟨v35, ρ36, h37, hm⟩ := cll_e hm
    refine zx_callV (σ := ρ27) C [.int (p2)] tC_6 k33 i34 Y_X6_append W_3_16 W_3_17 W_3_18 (c_X6_append h37) (by decide) (by decide) rfl (Nat.le_of_ble_eq_true rfl) dX10_feed_34 rfl ?_
    refine zx_aload_n C dX10_feed_37 0 rfl ?_
    obtain ⟨k38, i39, hm⟩ := ckO_e hm
    obtain ⟨a40, h41, hm⟩ := osm_e hm
    refine zx_get (j := 6) C tC_10 k38 i39 ⟨by decide, Or.inl W_2_219⟩ dX10_feed_38 (.ref a40) (rf_s h41) ?_
    refine zx_iload C dX10_feed_41 4 rfl ?_
    obtain ⟨k42, i43, hm⟩ := ckO_e hm
    obtain ⟨v44, ρ45, h46, hm⟩ := cll_e hm
    refine zx_callV (σ := ρ36) C [.int (p3)] tC_6 k42 i43 Y_X6_append W_3_16 W_3_17 W_3_18 (c_X6_append h46) (by decide) (by decide) rfl (Nat.le_of_ble_eq_true rfl) dX10_feed_43 rfl ?_
    refine zx_aload_n C dX10_feed_46 0 rfl ?_
    obtain ⟨k47, i48, hm⟩ := ckO_e hm
    obtain ⟨a49, h50, hm⟩ := osm_e hm
    refine zx_get (j := 6) C tC_10 k47 i48 ⟨by decide, Or.inl W_2_219⟩ dX10_feed_47 (.ref a49) (rf_s h50) ?_
    refine zx_iload C dX10_feed_50 5 rfl ?_
    obtain ⟨k51, i52, hm⟩ := ckO_e hm
    obtain ⟨v53, ρ54, h55, hm⟩ := cll_e hm
    refine zx_callV (σ := ρ45) C [.int (p4)] tC_6 k51 i52 Y_X6_append W_3_16 W_3_17 W_3_18 (c_X6_append h55) (by decide) (by decide) rfl (Nat.le_of_ble_eq_true rfl) dX10_feed_52 rfl ?_
    refine zx_aload_n C dX10_feed_55 0 rfl ?_
    obtain ⟨k56, i57, hm⟩ := ckO_e hm
    obtain ⟨a58, h59, hm⟩ := osm_e hm
    refine zx_get (j := 6) C tC_10 k56 i57 ⟨by decide, Or.inl W_2_219⟩ dX10_feed_56 (.ref a58) (rf_s h59) ?_
    obtain ⟨k60, i61, hm⟩ := ckO_e hm
    refine zx_get (j := 1) C tC_6 k60 i61 ⟨by decide, Or.inr ⟨_, W_2_44⟩⟩ dX10_feed_59 (.int (tI (ρ54) (a58) 1)) rfl ?_
    obtain ⟨rfl, rfl⟩ := ret_e hm
    exact zx_iret C rfl rfl rfl dX10_feed_62
  · replace hm := ip_e hm c10
    refine zx_bipush (v := (-9)) C dX10_feed_10 (by decide) ?_
    obtain ⟨rfl, rfl⟩ := ret_e hm
    exact zx_iret C rfl rfl rfl dX10_feed_12
abbrev cX10_isHeld : ByteArray := prog_1_method_19_code
def yX10_isHeld : MethodName := ⟨"SyncTree", "isHeld", "(I)Z"⟩
theorem Y_X10_isHeld : tY yX10_isHeld cX10_isHeld 3 (some .boolean) 1 := ⟨W_5_87, W_1_1, ⟨by decide +kernel, by decide +kernel⟩, by decide +kernel⟩
theorem dX10_isHeld_0 : decode cX10_isHeld 0 = .ok (.iconst 0, 1) := by decide +kernel
theorem dX10_isHeld_1 : decode cX10_isHeld 1 = .ok (.istore_n 2, 1) := by decide +kernel
theorem dX10_isHeld_2 : decode cX10_isHeld 2 = .ok (.iload_n 2, 1) := by decide +kernel
theorem dX10_isHeld_3 : decode cX10_isHeld 3 = .ok (.bipush 16, 2) := by decide +kernel
theorem dX10_isHeld_5 : decode cX10_isHeld 5 = .ok (.if_icmp .ge 21, 3) := by decide +kernel
theorem dX10_isHeld_8 : decode cX10_isHeld 8 = .ok (.aload_n 0, 1) := by decide +kernel
theorem dX10_isHeld_9 : decode cX10_isHeld 9 = .ok (.getfield 76, 3) := by decide +kernel
theorem dX10_isHeld_12 : decode cX10_isHeld 12 = .ok (.iload_n 2, 1) := by decide +kernel
theorem dX10_isHeld_13 : decode cX10_isHeld 13 = .ok (.iaload, 1) := by decide +kernel
theorem dX10_isHeld_14 : decode cX10_isHeld 14 = .ok (.iload_n 1, 1) := by decide +kernel
theorem dX10_isHeld_15 : decode cX10_isHeld 15 = .ok (.if_icmp .ne 5, 3) := by decide +kernel
theorem dX10_isHeld_18 : decode cX10_isHeld 18 = .ok (.iconst 1, 1) := by decide +kernel
theorem dX10_isHeld_19 : decode cX10_isHeld 19 = .ok (.ireturn, 1) := by decide +kernel
theorem dX10_isHeld_20 : decode cX10_isHeld 20 = .ok (.iinc 2 1, 3) := by decide +kernel
theorem dX10_isHeld_23 : decode cX10_isHeld 23 = .ok (.goto (-21), 3) := by decide +kernel
theorem dX10_isHeld_26 : decode cX10_isHeld 26 = .ok (.iconst 0, 1) := by decide +kernel
theorem dX10_isHeld_27 : decode cX10_isHeld 27 = .ok (.ireturn, 1) := by decide +kernel
def L_X10_isHeld_2 (b0 fu : Nat)  : Nat → Nat → Int32 → Int32 → tM → Option ((Int32) × tM)
  | 0, _, _, _, _ => none
  | n + 1, x0, x1, x2, σ => ltb (L_X10_isHeld_2 b0 fu  n) (fun rc2 => if (16) ≤ (x2) then some (0, σ) else ckO b0 (σ) (x0) 10 (osm (tA (σ) (x0) 9) (fun a4 => ckR b0 (σ) (a4) 0 (fun n8 => ckI (x2) (n8) (if (tI (σ) (a4) ((x2).toNatClampNeg)) = (x1) then some (1, σ) else ltb ((x2) + Int32.ofInt 1) (fun y11 => rc2 (x0) (x1) (y11) (σ)))))))
def m_X10_isHeld (b0 fu : Nat) (a0 : Nat) (p0 : Int32) (σ : tM) : Option ((Int32) × tM) := grw σ (L_X10_isHeld_2 b0 fu  (fu) (a0) (p0) (0) (σ))
set_option maxRecDepth 100000 in
set_option maxHeartbeats 1000000 in
theorem l_X10_isHeld_2 {p : Program} {l : Launch} {e : Env} {s : State} {m : MethodId} {args : Array Value} {below : List Frame} {meth : Method} {c : Code} {D : va_G} {aC : Nat → ClassId} {b0 fu : Nat} {σ0 τ : tM} {v : Int32}  (C : tCx p l s m args meth c yX10_isHeld.cls cX10_isHeld 3 (some .boolean) D aC b0 σ0) (htab : ∀ x ∈ c.exceptionTable.toList, False) (hin : meth.name = yX10_isHeld.name)  : ∀ (n : Nat) (x0 : Nat) (x1 : Int32) (x2 : Int32) (σ : tM), L_X10_isHeld_2 b0 fu  n x0 x1 x2 σ = some (v, τ) → tX p l e s m args below meth c 3 0 0 D aC b0 σ0 (.inl (some (.int v))) τ 2 [(0, .ref (x0)), (1, .int (x1)), (2, .int (x2))] [] σ := by
  intro n
  induction n with
  | zero => intro x0 x1 x2 σ hm; unfold L_X10_isHeld_2 at hm; cases hm
  | succ n ih =>
    intro x0 x1 x2 σ hm
    unfold L_X10_isHeld_2 at hm
    obtain ⟨rc2, hrc⟩ : ∃ z, z = L_X10_isHeld_2 b0 fu  n := ⟨_, rfl⟩
    replace hm := ltb_e hm hrc
    rw [← hrc] at ih
    have hrc2 := ih
    clear ih hrc
    refine zx_iload_n C dX10_isHeld_2 2 rfl ?_
    refine zx_bipush (v := 16) C dX10_isHeld_3 (by decide) ?_
    refine zx_icmp_ge C 26 dX10_isHeld_5 (by decide) (fun c1 => ?_) (fun c1 => ?_)
    · replace hm := ip_e hm c1
      refine zx_iconst (v := 0) C dX10_isHeld_26 (by decide) ?_
      obtain ⟨rfl, rfl⟩ := ret_e hm
      exact zx_zret C rfl (by decide) rfl rfl dX10_isHeld_27
    · replace hm := in_e hm c1
      refine zx_aload_n C dX10_isHeld_8 0 rfl ?_
      obtain ⟨k2, i3, hm⟩ := ckO_e hm
      obtain ⟨a4, h5, hm⟩ := osm_e hm
      refine zx_get (j := 9) C tC_10 k2 i3 ⟨by decide, Or.inl W_2_222⟩ dX10_isHeld_9 (.ref a4) (rf_s h5) ?_
      refine zx_iload_n C dX10_isHeld_12 2 rfl ?_
      obtain ⟨n8, k6, i7, hm⟩ := ckR_e hm
      obtain ⟨h9, hm⟩ := ckI_e hm
      refine zx_iald C k6 i7 h9 dX10_isHeld_13 ?_
      refine zx_iload_n C dX10_isHeld_14 1 rfl ?_
      refine zx_icmp_ne C 20 dX10_isHeld_15 (by decide) (fun c10 => ?_) (fun c10 => ?_)
      · replace hm := in_e hm c10
        obtain ⟨y11, hy11⟩ : ∃ z : Int32, z = (x2) + Int32.ofInt 1 := ⟨_, rfl⟩
        replace hm := ltb_e hm hy11
        refine zx_iinc C [(2, .int (y11)), (0, .ref (x0)), (1, .int (x1))] dX10_isHeld_20 2 rfl hy11.symm (by decide) rfl ?_
        refine zx_goto C 2 dX10_isHeld_23 (by decide) ?_
        exact zx_lv [1, 2, 0] [(0, .ref (x0)), (1, .int (x1)), (2, .int (y11))] rfl (hrc2 _ _ _ _ hm)
      · replace hm := ip_e hm c10
        refine zx_iconst (v := 1) C dX10_isHeld_18 (by decide) ?_
        obtain ⟨rfl, rfl⟩ := ret_e hm
        exact zx_zret C rfl (by decide) rfl rfl dX10_isHeld_19
set_option maxRecDepth 100000 in
set_option maxHeartbeats 1000000 in
theorem c_X10_isHeld {l : Launch} {D : va_G} {aC : Nat → ClassId} {b0 fu : Nat} {a0 : Nat} {p0 : Int32} {σ τ : tM} {v : Int32} (hm : m_X10_isHeld b0 fu a0 p0 σ = some (v, τ)) : tMt l D aC b0 yX10_isHeld (Cond.code yX10_isHeld cX10_isHeld 3 (some .boolean)) 0 0 [.ref (a0), .int (p0)] σ (.inl (some (.int v))) τ := by
  unfold m_X10_isHeld at hm
  obtain ⟨hg, hm⟩ := grw_e hm
  refine tMt_of (n := 0) rfl (Nat.le_of_ble_eq_true rfl) hg ?_
  intro p e s m below meth c C htab hin
  refine zx_lv [0, 1] [(0, .ref (a0)), (1, .int (p0))] rfl ?_
  refine zx_iconst (v := 0) C dX10_isHeld_0 (by decide) ?_
  refine zx_istore_n C [(2, .int (0)), (0, .ref (a0)), (1, .int (p0))] dX10_isHeld_1 rfl (by decide) rfl ?_
  exact zx_lv [1, 2, 0] [(0, .ref (a0)), (1, .int (p0)), (2, .int (0))] rfl (l_X10_isHeld_2 C htab hin  _ _ _ _ _ hm)
abbrev cX10_fileOf : ByteArray := prog_1_method_21_code
def yX10_fileOf : MethodName := ⟨"SyncTree", "fileOf", "(I)I"⟩
theorem Y_X10_fileOf : tY yX10_fileOf cX10_fileOf 2 (some .int) 1 := ⟨W_5_141, W_1_1, ⟨by decide +kernel, by decide +kernel⟩, by decide +kernel⟩
theorem dX10_fileOf_0 : decode cX10_fileOf 0 = .ok (.iload_n 1, 1) := by decide +kernel
theorem dX10_fileOf_1 : decode cX10_fileOf 1 = .ok (.ifCond .lt 18, 3) := by decide +kernel
theorem dX10_fileOf_4 : decode cX10_fileOf 4 = .ok (.iload_n 1, 1) := by decide +kernel
theorem dX10_fileOf_5 : decode cX10_fileOf 5 = .ok (.bipush 16, 2) := by decide +kernel
theorem dX10_fileOf_7 : decode cX10_fileOf 7 = .ok (.if_icmp .ge 12, 3) := by decide +kernel
theorem dX10_fileOf_10 : decode cX10_fileOf 10 = .ok (.aload_n 0, 1) := by decide +kernel
theorem dX10_fileOf_11 : decode cX10_fileOf 11 = .ok (.getfield 76, 3) := by decide +kernel
theorem dX10_fileOf_14 : decode cX10_fileOf 14 = .ok (.iload_n 1, 1) := by decide +kernel
theorem dX10_fileOf_15 : decode cX10_fileOf 15 = .ok (.iaload, 1) := by decide +kernel
theorem dX10_fileOf_16 : decode cX10_fileOf 16 = .ok (.ifCond .ge 8, 3) := by decide +kernel
theorem dX10_fileOf_19 : decode cX10_fileOf 19 = .ok (.bipush (-9), 2) := by decide +kernel
theorem dX10_fileOf_21 : decode cX10_fileOf 21 = .ok (.goto 9, 3) := by decide +kernel
theorem dX10_fileOf_24 : decode cX10_fileOf 24 = .ok (.aload_n 0, 1) := by decide +kernel
theorem dX10_fileOf_25 : decode cX10_fileOf 25 = .ok (.getfield 76, 3) := by decide +kernel
theorem dX10_fileOf_28 : decode cX10_fileOf 28 = .ok (.iload_n 1, 1) := by decide +kernel
theorem dX10_fileOf_29 : decode cX10_fileOf 29 = .ok (.iaload, 1) := by decide +kernel
theorem dX10_fileOf_30 : decode cX10_fileOf 30 = .ok (.ireturn, 1) := by decide +kernel
def J_X10_fileOf_30 (b0 fu : Nat)  (s0 : Int32) (σ : tM) : Option ((Int32) × tM) := some (s0, σ)
def J_X10_fileOf_19 (b0 fu : Nat)   (σ : tM) : Option ((Int32) × tM) := J_X10_fileOf_30 b0 fu   ((-9)) (σ)
def m_X10_fileOf (b0 fu : Nat) (a0 : Nat) (p0 : Int32) (σ : tM) : Option ((Int32) × tM) := grw σ (if (p0) < (0) then J_X10_fileOf_19 b0 fu    (σ) else if (16) ≤ (p0) then J_X10_fileOf_19 b0 fu    (σ) else ckO b0 (σ) (a0) 10 (osm (tA (σ) (a0) 9) (fun a5 => ckR b0 (σ) (a5) 0 (fun n9 => ckI (p0) (n9) (if (0) ≤ (tI (σ) (a5) ((p0).toNatClampNeg)) then osm (tA (σ) (a0) 9) (fun a12 => ckR b0 (σ) (a12) 0 (fun n16 => ckI (p0) (n16) (J_X10_fileOf_30 b0 fu   (tI (σ) (a12) ((p0).toNatClampNeg)) (σ)))) else J_X10_fileOf_19 b0 fu    (σ))))))
set_option maxRecDepth 100000 in
set_option maxHeartbeats 1000000 in
theorem j_X10_fileOf_30 {p : Program} {l : Launch} {e : Env} {s : State} {m : MethodId} {args : Array Value} {below : List Frame} {meth : Method} {c : Code} {D : va_G} {aC : Nat → ClassId} {b0 fu : Nat} {σ0 τ : tM} {v : Int32}  (C : tCx p l s m args meth c yX10_fileOf.cls cX10_fileOf 2 (some .int) D aC b0 σ0) (htab : ∀ x ∈ c.exceptionTable.toList, False) (hin : meth.name = yX10_fileOf.name)  {s0 : Int32} {σ : tM} (hm : J_X10_fileOf_30 b0 fu  s0 σ = some (v, τ)) : tX p l e s m args below meth c 2 0 0 D aC b0 σ0 (.inl (some (.int v))) τ 30 [] [.int (s0)] σ := by
  unfold J_X10_fileOf_30 at hm
  obtain ⟨rfl, rfl⟩ := ret_e hm
  exact zx_iret C rfl rfl rfl dX10_fileOf_30
set_option maxRecDepth 100000 in
set_option maxHeartbeats 1000000 in
theorem j_X10_fileOf_19 {p : Program} {l : Launch} {e : Env} {s : State} {m : MethodId} {args : Array Value} {below : List Frame} {meth : Method} {c : Code} {D : va_G} {aC : Nat → ClassId} {b0 fu : Nat} {σ0 τ : tM} {v : Int32}  (C : tCx p l s m args meth c yX10_fileOf.cls cX10_fileOf 2 (some .int) D aC b0 σ0) (htab : ∀ x ∈ c.exceptionTable.toList, False) (hin : meth.name = yX10_fileOf.name)   {σ : tM} (hm : J_X10_fileOf_19 b0 fu   σ = some (v, τ)) : tX p l e s m args below meth c 2 0 0 D aC b0 σ0 (.inl (some (.int v))) τ 19 [] [] σ := by
  unfold J_X10_fileOf_19 at hm
  refine zx_bipush (v := (-9)) C dX10_fileOf_19 (by decide) ?_
  refine zx_goto C 30 dX10_fileOf_21 (by decide) ?_
  exact zx_lv [] [] rfl (j_X10_fileOf_30 C htab hin    hm)
set_option maxRecDepth 100000 in
set_option maxHeartbeats 1000000 in
theorem c_X10_fileOf {l : Launch} {D : va_G} {aC : Nat → ClassId} {b0 fu : Nat} {a0 : Nat} {p0 : Int32} {σ τ : tM} {v : Int32} (hm : m_X10_fileOf b0 fu a0 p0 σ = some (v, τ)) : tMt l D aC b0 yX10_fileOf (Cond.code yX10_fileOf cX10_fileOf 2 (some .int)) 0 0 [.ref (a0), .int (p0)] σ (.inl (some (.int v))) τ := by
  unfold m_X10_fileOf at hm
  obtain ⟨hg, hm⟩ := grw_e hm
  refine tMt_of (n := 0) rfl (Nat.le_of_ble_eq_true rfl) hg ?_
  intro p e s m below meth c C htab hin
  refine zx_lv [0, 1] [(0, .ref (a0)), (1, .int (p0))] rfl ?_
  refine zx_iload_n C dX10_fileOf_0 1 rfl ?_
  refine zx_if_lt C 19 dX10_fileOf_1 (by decide) (fun c1 => ?_) (fun c1 => ?_)
  · replace hm := ip_e hm c1
    exact zx_lv [] [] rfl (j_X10_fileOf_19 C htab hin    hm)
  · replace hm := in_e hm c1
    refine zx_iload_n C dX10_fileOf_4 1 rfl ?_
    refine zx_bipush (v := 16) C dX10_fileOf_5 (by decide) ?_
    refine zx_icmp_ge C 19 dX10_fileOf_7 (by decide) (fun c2 => ?_) (fun c2 => ?_)
    · replace hm := ip_e hm c2
      exact zx_lv [] [] rfl (j_X10_fileOf_19 C htab hin    hm)
    · replace hm := in_e hm c2
      refine zx_aload_n C dX10_fileOf_10 0 rfl ?_
      obtain ⟨k3, i4, hm⟩ := ckO_e hm
      obtain ⟨a5, h6, hm⟩ := osm_e hm
      refine zx_get (j := 9) C tC_10 k3 i4 ⟨by decide, Or.inl W_2_222⟩ dX10_fileOf_11 (.ref a5) (rf_s h6) ?_
      refine zx_iload_n C dX10_fileOf_14 1 rfl ?_
      obtain ⟨n9, k7, i8, hm⟩ := ckR_e hm
      obtain ⟨h10, hm⟩ := ckI_e hm
      refine zx_iald C k7 i8 h10 dX10_fileOf_15 ?_
      refine zx_if_ge C 24 dX10_fileOf_16 (by decide) (fun c11 => ?_) (fun c11 => ?_)
      · replace hm := ip_e hm c11
        refine zx_aload_n C dX10_fileOf_24 0 rfl ?_
        obtain ⟨a12, h13, hm⟩ := osm_e hm
        refine zx_get (j := 9) C tC_10 k3 i4 ⟨by decide, Or.inl W_2_222⟩ dX10_fileOf_25 (.ref a12) (rf_s h13) ?_
        refine zx_iload_n C dX10_fileOf_28 1 rfl ?_
        obtain ⟨n16, k14, i15, hm⟩ := ckR_e hm
        obtain ⟨h17, hm⟩ := ckI_e hm
        refine zx_iald C k14 i15 h17 dX10_fileOf_29 ?_
        exact zx_lv [] [] rfl (j_X10_fileOf_30 C htab hin    hm)
      · replace hm := in_e hm c11
        exact zx_lv [] [] rfl (j_X10_fileOf_19 C htab hin    hm)
abbrev cX10_byteAt : ByteArray := prog_1_method_27_code
def yX10_byteAt : MethodName := ⟨"SyncTree", "byteAt", "(II)I"⟩
theorem Y_X10_byteAt : tY yX10_byteAt cX10_byteAt 4 (some .int) 2 := ⟨W_5_188, W_1_1, ⟨by decide +kernel, by decide +kernel⟩, by decide +kernel⟩
theorem dX10_byteAt_0 : decode cX10_byteAt 0 = .ok (.aload_n 0, 1) := by decide +kernel
theorem dX10_byteAt_1 : decode cX10_byteAt 1 = .ok (.getfield 12, 3) := by decide +kernel
theorem dX10_byteAt_4 : decode cX10_byteAt 4 = .ok (.invokevirtual 221, 3) := by decide +kernel
theorem dX10_byteAt_7 : decode cX10_byteAt 7 = .ok (.aload_n 0, 1) := by decide +kernel
theorem dX10_byteAt_8 : decode cX10_byteAt 8 = .ok (.iload_n 1, 1) := by decide +kernel
theorem dX10_byteAt_9 : decode cX10_byteAt 9 = .ok (.invokevirtual 224, 3) := by decide +kernel
theorem dX10_byteAt_12 : decode cX10_byteAt 12 = .ok (.istore_n 3, 1) := by decide +kernel
theorem dX10_byteAt_13 : decode cX10_byteAt 13 = .ok (.iload_n 3, 1) := by decide +kernel
theorem dX10_byteAt_14 : decode cX10_byteAt 14 = .ok (.ifCond .lt 19, 3) := by decide +kernel
theorem dX10_byteAt_17 : decode cX10_byteAt 17 = .ok (.iload_n 2, 1) := by decide +kernel
theorem dX10_byteAt_18 : decode cX10_byteAt 18 = .ok (.ifCond .lt 15, 3) := by decide +kernel
theorem dX10_byteAt_21 : decode cX10_byteAt 21 = .ok (.iload_n 2, 1) := by decide +kernel
theorem dX10_byteAt_22 : decode cX10_byteAt 22 = .ok (.aload_n 0, 1) := by decide +kernel
theorem dX10_byteAt_23 : decode cX10_byteAt 23 = .ok (.getfield 28, 3) := by decide +kernel
theorem dX10_byteAt_26 : decode cX10_byteAt 26 = .ok (.iload_n 3, 1) := by decide +kernel
theorem dX10_byteAt_27 : decode cX10_byteAt 27 = .ok (.invokevirtual 245, 3) := by decide +kernel
theorem dX10_byteAt_30 : decode cX10_byteAt 30 = .ok (.if_icmp .lt 6, 3) := by decide +kernel
theorem dX10_byteAt_33 : decode cX10_byteAt 33 = .ok (.bipush (-9), 2) := by decide +kernel
theorem dX10_byteAt_35 : decode cX10_byteAt 35 = .ok (.ireturn, 1) := by decide +kernel
theorem dX10_byteAt_36 : decode cX10_byteAt 36 = .ok (.aload_n 0, 1) := by decide +kernel
theorem dX10_byteAt_37 : decode cX10_byteAt 37 = .ok (.getfield 28, 3) := by decide +kernel
theorem dX10_byteAt_40 : decode cX10_byteAt 40 = .ok (.iload_n 3, 1) := by decide +kernel
theorem dX10_byteAt_41 : decode cX10_byteAt 41 = .ok (.iload_n 2, 1) := by decide +kernel
theorem dX10_byteAt_42 : decode cX10_byteAt 42 = .ok (.invokevirtual 255, 3) := by decide +kernel
theorem dX10_byteAt_45 : decode cX10_byteAt 45 = .ok (.ireturn, 1) := by decide +kernel
def J_X10_byteAt_33 (b0 fu : Nat)   (σ : tM) : Option (((Int32) ⊕ Unit) × tM) := some (.inl ((-9)), σ)
def m_X10_byteAt (b0 fu : Nat) (a0 : Nat) (p0 : Int32) (p1 : Int32) (σ : tM) : Option (((Int32) ⊕ Unit) × tM) := grw σ (ckO b0 (σ) (a0) 10 (osm (tA (σ) (a0) 0) (fun a3 => ckO b0 (σ) (a3) 0 (clx (m_X0_demandPower b0 fu (a3) (σ)) (fun v7 ρ8 => ckO b0 (ρ8) (a0) 10 (cll (m_X10_fileOf b0 fu (a0) (p0) (ρ8)) (fun v12 ρ13 => if (v12) < (0) then J_X10_byteAt_33 b0 fu    (ρ13) else if (p1) < (0) then J_X10_byteAt_33 b0 fu    (ρ13) else ckO b0 (ρ13) (a0) 10 (osm (tA (ρ13) (a0) 2) (fun a19 => ckO b0 (ρ13) (a19) 8 (cll (m_X8_size b0 fu (a19) (v12) (ρ13)) (fun v23 ρ24 => if (p1) < (v23) then ckO b0 (ρ24) (a0) 10 (osm (tA (ρ24) (a0) 2) (fun a29 => ckO b0 (ρ24) (a29) 8 (cll (m_X8_octetAt b0 fu (a29) (v12) (p1) (ρ24)) (fun v33 ρ34 => some (.inl (v33), ρ34))))) else J_X10_byteAt_33 b0 fu    (ρ24))))))))))))
set_option maxRecDepth 100000 in
set_option maxHeartbeats 1000000 in
theorem j_X10_byteAt_33 {p : Program} {l : Launch} {e : Env} {s : State} {m : MethodId} {args : Array Value} {below : List Frame} {meth : Method} {c : Code} {D : va_G} {aC : Nat → ClassId} {b0 fu : Nat} {σ0 τ : tM} {v : (Int32) ⊕ Unit}  (C : tCx p l s m args meth c yX10_byteAt.cls cX10_byteAt 4 (some .int) D aC b0 σ0) (htab : ∀ x ∈ c.exceptionTable.toList, False) (hin : meth.name = yX10_byteAt.name)   {σ : tM} (hm : J_X10_byteAt_33 b0 fu   σ = some (v, τ)) : tX p l e s m args below meth c 4 7 110 D aC b0 σ0 (rxI "java/lang/IllegalStateException" v) τ 33 [] [] σ := by
  unfold J_X10_byteAt_33 at hm
  refine zx_bipush (v := (-9)) C dX10_byteAt_33 (by decide) ?_
  obtain ⟨rfl, rfl⟩ := ret_e hm
  exact zx_iret C rfl rfl rfl dX10_byteAt_35
set_option maxRecDepth 100000 in
set_option maxHeartbeats 1000000 in
theorem c_X10_byteAt {l : Launch} {D : va_G} {aC : Nat → ClassId} {b0 fu : Nat} {a0 : Nat} {p0 : Int32} {p1 : Int32} {σ τ : tM} {v : (Int32) ⊕ Unit} (hm : m_X10_byteAt b0 fu a0 p0 p1 σ = some (v, τ)) : tMt l D aC b0 yX10_byteAt (Cond.code yX10_byteAt cX10_byteAt 4 (some .int)) 7 110 [.ref (a0), .int (p0), .int (p1)] σ (rxI "java/lang/IllegalStateException" v) τ := by
  unfold m_X10_byteAt at hm
  obtain ⟨hg, hm⟩ := grw_e hm
  refine tMt_of (n := 0) rfl (Nat.le_of_ble_eq_true rfl) hg ?_
  intro p e s m below meth c C htab hin
  refine zx_lv [0, 1, 2] [(0, .ref (a0)), (1, .int (p0)), (2, .int (p1))] rfl ?_
  refine zx_aload_n C dX10_byteAt_0 0 rfl ?_
  obtain ⟨k1, i2, hm⟩ := ckO_e hm
  obtain ⟨a3, h4, hm⟩ := osm_e hm
  refine zx_get (j := 0) C tC_10 k1 i2 ⟨by decide, Or.inl W_2_213⟩ dX10_byteAt_1 (.ref a3) (rf_s h4) ?_
  obtain ⟨k5, i6, hm⟩ := ckO_e hm
  rcases clx_e hm with ⟨v7, ρ8, h9, hm⟩ | ⟨ρ8, h9, hm⟩
  · refine zx_callV (σ := σ) C [] tC_0 k5 i6 Y_X0_demandPower W_5_130 W_3_113 W_3_114 (c_X0_demandPower h9) (by decide) (by decide) rfl (Nat.le_of_ble_eq_true rfl) dX10_byteAt_4 rfl ?_
    refine zx_aload_n C dX10_byteAt_7 0 rfl ?_
    refine zx_iload_n C dX10_byteAt_8 1 rfl ?_
    obtain ⟨k10, i11, hm⟩ := ckO_e hm
    obtain ⟨v12, ρ13, h14, hm⟩ := cll_e hm
    refine zx_callV (σ := ρ8) C [.int (p0)] tC_10 k10 i11 Y_X10_fileOf W_5_138 W_5_140 Wp_41 (c_X10_fileOf h14) (by decide) (by decide) rfl (Nat.le_of_ble_eq_true rfl) dX10_byteAt_9 rfl ?_
    refine zx_istore_n C [(3, .int (v12)), (0, .ref (a0)), (1, .int (p0)), (2, .int (p1))] dX10_byteAt_12 rfl (by decide) rfl ?_
    refine zx_iload_n C dX10_byteAt_13 0 rfl ?_
    refine zx_if_lt C 33 dX10_byteAt_14 (by decide) (fun c15 => ?_) (fun c15 => ?_)
    · replace hm := ip_e hm c15
      exact zx_lv [] [] rfl (j_X10_byteAt_33 C htab hin    hm)
    · replace hm := in_e hm c15
      refine zx_iload_n C dX10_byteAt_17 3 rfl ?_
      refine zx_if_lt C 33 dX10_byteAt_18 (by decide) (fun c16 => ?_) (fun c16 => ?_)
      · replace hm := ip_e hm c16
        exact zx_lv [] [] rfl (j_X10_byteAt_33 C htab hin    hm)
      · replace hm := in_e hm c16
        refine zx_iload_n C dX10_byteAt_21 3 rfl ?_
        refine zx_aload_n C dX10_byteAt_22 1 rfl ?_
        obtain ⟨k17, i18, hm⟩ := ckO_e hm
        obtain ⟨a19, h20, hm⟩ := osm_e hm
        refine zx_get (j := 2) C tC_10 k17 i18 ⟨by decide, Or.inl W_2_215⟩ dX10_byteAt_23 (.ref a19) (rf_s h20) ?_
        refine zx_iload_n C dX10_byteAt_26 0 rfl ?_
        obtain ⟨k21, i22, hm⟩ := ckO_e hm
        obtain ⟨v23, ρ24, h25, hm⟩ := cll_e hm
        refine zx_callV (σ := ρ13) C [.int (v12)] tC_8 k21 i22 Y_X8_size W_5_155 W_4_133 W_4_134 (c_X8_size h25) (by decide) (by decide) rfl (Nat.le_of_ble_eq_true rfl) dX10_byteAt_27 rfl ?_
        refine zx_icmp_lt C 36 dX10_byteAt_30 (by decide) (fun c26 => ?_) (fun c26 => ?_)
        · replace hm := ip_e hm c26
          refine zx_aload_n C dX10_byteAt_36 1 rfl ?_
          obtain ⟨k27, i28, hm⟩ := ckO_e hm
          obtain ⟨a29, h30, hm⟩ := osm_e hm
          refine zx_get (j := 2) C tC_10 k27 i28 ⟨by decide, Or.inl W_2_215⟩ dX10_byteAt_37 (.ref a29) (rf_s h30) ?_
          refine zx_iload_n C dX10_byteAt_40 0 rfl ?_
          refine zx_iload_n C dX10_byteAt_41 3 rfl ?_
          obtain ⟨k31, i32, hm⟩ := ckO_e hm
          obtain ⟨v33, ρ34, h35, hm⟩ := cll_e hm
          refine zx_callV (σ := ρ24) C [.int (v12), .int (p1)] tC_8 k31 i32 Y_X8_octetAt W_5_189 W_5_190 W_5_191 (c_X8_octetAt h35) (by decide) (by decide) rfl (Nat.le_of_ble_eq_true rfl) dX10_byteAt_42 rfl ?_
          obtain ⟨rfl, rfl⟩ := ret_e hm
          exact zx_iret C rfl rfl rfl dX10_byteAt_45
        · replace hm := in_e hm c26
          exact zx_lv [] [] rfl (j_X10_byteAt_33 C htab hin    hm)
  · cases hm
    exact zx_outV (σ := σ) C htab [] tC_0 k5 i6 Y_X0_demandPower W_5_130 W_3_113 W_3_114 (c_X0_demandPower h9) rfl (by decide) (by decide) rfl (Nat.le_of_ble_eq_true rfl) dX10_byteAt_4 rfl
abbrev cX10_sum : ByteArray := prog_1_method_28_code
def yX10_sum : MethodName := ⟨"SyncTree", "sum", "(III)J"⟩
theorem Y_X10_sum : tY yX10_sum cX10_sum 7 (some .long) 3 := ⟨W_5_199, W_1_1, ⟨by decide +kernel, by decide +kernel⟩, by decide +kernel⟩
theorem dX10_sum_0 : decode cX10_sum 0 = .ok (.aload_n 0, 1) := by decide +kernel
theorem dX10_sum_1 : decode cX10_sum 1 = .ok (.getfield 12, 3) := by decide +kernel
theorem dX10_sum_4 : decode cX10_sum 4 = .ok (.invokevirtual 221, 3) := by decide +kernel
theorem dX10_sum_7 : decode cX10_sum 7 = .ok (.aload_n 0, 1) := by decide +kernel
theorem dX10_sum_8 : decode cX10_sum 8 = .ok (.iload_n 1, 1) := by decide +kernel
theorem dX10_sum_9 : decode cX10_sum 9 = .ok (.invokevirtual 224, 3) := by decide +kernel
theorem dX10_sum_12 : decode cX10_sum 12 = .ok (.istore 4, 2) := by decide +kernel
theorem dX10_sum_14 : decode cX10_sum 14 = .ok (.iload 4, 2) := by decide +kernel
theorem dX10_sum_16 : decode cX10_sum 16 = .ok (.ifCond .lt 18, 3) := by decide +kernel
theorem dX10_sum_19 : decode cX10_sum 19 = .ok (.iload_n 2, 1) := by decide +kernel
theorem dX10_sum_20 : decode cX10_sum 20 = .ok (.ifCond .lt 14, 3) := by decide +kernel
theorem dX10_sum_23 : decode cX10_sum 23 = .ok (.iload_n 3, 1) := by decide +kernel
theorem dX10_sum_24 : decode cX10_sum 24 = .ok (.ifCond .lt 10, 3) := by decide +kernel
theorem dX10_sum_27 : decode cX10_sum 27 = .ok (.iload_n 3, 1) := by decide +kernel
theorem dX10_sum_28 : decode cX10_sum 28 = .ok (.sipush 16384, 3) := by decide +kernel
theorem dX10_sum_31 : decode cX10_sum 31 = .ok (.if_icmp .le 7, 3) := by decide +kernel
theorem dX10_sum_34 : decode cX10_sum 34 = .ok (.ldc2_w 258, 3) := by decide +kernel
theorem dX10_sum_37 : decode cX10_sum 37 = .ok (.lreturn, 1) := by decide +kernel
theorem dX10_sum_38 : decode cX10_sum 38 = .ok (.iconst 0, 1) := by decide +kernel
theorem dX10_sum_39 : decode cX10_sum 39 = .ok (.aload_n 0, 1) := by decide +kernel
theorem dX10_sum_40 : decode cX10_sum 40 = .ok (.getfield 28, 3) := by decide +kernel
theorem dX10_sum_43 : decode cX10_sum 43 = .ok (.iload 4, 2) := by decide +kernel
theorem dX10_sum_45 : decode cX10_sum 45 = .ok (.invokevirtual 245, 3) := by decide +kernel
theorem dX10_sum_48 : decode cX10_sum 48 = .ok (.iload_n 2, 1) := by decide +kernel
theorem dX10_sum_49 : decode cX10_sum 49 = .ok (.isub, 1) := by decide +kernel
theorem dX10_sum_50 : decode cX10_sum 50 = .ok (.invokestatic 260, 3) := by decide +kernel
theorem dX10_sum_53 : decode cX10_sum 53 = .ok (.istore 5, 2) := by decide +kernel
theorem dX10_sum_55 : decode cX10_sum 55 = .ok (.iload_n 3, 1) := by decide +kernel
theorem dX10_sum_56 : decode cX10_sum 56 = .ok (.iload 5, 2) := by decide +kernel
theorem dX10_sum_58 : decode cX10_sum 58 = .ok (.invokestatic 265, 3) := by decide +kernel
theorem dX10_sum_61 : decode cX10_sum 61 = .ok (.istore 6, 2) := by decide +kernel
theorem dX10_sum_63 : decode cX10_sum 63 = .ok (.iload 6, 2) := by decide +kernel
theorem dX10_sum_65 : decode cX10_sum 65 = .ok (.i2l, 1) := by decide +kernel
theorem dX10_sum_66 : decode cX10_sum 66 = .ok (.bipush 32, 2) := by decide +kernel
theorem dX10_sum_68 : decode cX10_sum 68 = .ok (.lshl, 1) := by decide +kernel
theorem dX10_sum_69 : decode cX10_sum 69 = .ok (.aload_n 0, 1) := by decide +kernel
theorem dX10_sum_70 : decode cX10_sum 70 = .ok (.getfield 28, 3) := by decide +kernel
theorem dX10_sum_73 : decode cX10_sum 73 = .ok (.iload 4, 2) := by decide +kernel
theorem dX10_sum_75 : decode cX10_sum 75 = .ok (.iload_n 2, 1) := by decide +kernel
theorem dX10_sum_76 : decode cX10_sum 76 = .ok (.iload 6, 2) := by decide +kernel
theorem dX10_sum_78 : decode cX10_sum 78 = .ok (.invokevirtual 268, 3) := by decide +kernel
theorem dX10_sum_81 : decode cX10_sum 81 = .ok (.ladd, 1) := by decide +kernel
theorem dX10_sum_82 : decode cX10_sum 82 = .ok (.lreturn, 1) := by decide +kernel
def J_X10_sum_34 (b0 fu : Nat)   (σ : tM) : Option (((Int64) ⊕ Unit) × tM) := some (.inl ((-9)), σ)
def m_X10_sum (b0 fu : Nat) (a0 : Nat) (p0 : Int32) (p1 : Int32) (p2 : Int32) (σ : tM) : Option (((Int64) ⊕ Unit) × tM) := grw σ (ckO b0 (σ) (a0) 10 (osm (tA (σ) (a0) 0) (fun a3 => ckO b0 (σ) (a3) 0 (clx (m_X0_demandPower b0 fu (a3) (σ)) (fun v7 ρ8 => ckO b0 (ρ8) (a0) 10 (cll (m_X10_fileOf b0 fu (a0) (p0) (ρ8)) (fun v12 ρ13 => if (v12) < (0) then J_X10_sum_34 b0 fu    (ρ13) else if (p1) < (0) then J_X10_sum_34 b0 fu    (ρ13) else if (p2) < (0) then J_X10_sum_34 b0 fu    (ρ13) else if (p2) ≤ (16384) then ckO b0 (ρ13) (a0) 10 (osm (tA (ρ13) (a0) 2) (fun a21 => ckO b0 (ρ13) (a21) 8 (cll (m_X8_size b0 fu (a21) (v12) (ρ13)) (fun v25 ρ26 => ltb (((if ((0 : Int32)) < ((v25) - (p1)) then ((v25) - (p1)) else (0) : Int32) : Int32)) (fun y28 => ltb (((if (y28) < (p2) then (y28) else (p2) : Int32) : Int32)) (fun y29 => ckO b0 (ρ26) (a0) 10 (osm (tA (ρ26) (a0) 2) (fun a32 => ckO b0 (ρ26) (a32) 8 (cll (m_X8_checksum b0 fu (a32) (v12) (p1) (y29) (ρ26)) (fun v36 ρ37 => some (.inl ((((y29).toInt64) <<< (((32 : Int32)).toInt64 &&& 63)) + (v36)), ρ37))))))))))) else J_X10_sum_34 b0 fu    (ρ13))))))))
set_option maxRecDepth 100000 in
set_option maxHeartbeats 1000000 in
theorem j_X10_sum_34 {p : Program} {l : Launch} {e : Env} {s : State} {m : MethodId} {args : Array Value} {below : List Frame} {meth : Method} {c : Code} {D : va_G} {aC : Nat → ClassId} {b0 fu : Nat} {σ0 τ : tM} {v : (Int64) ⊕ Unit}  (C : tCx p l s m args meth c yX10_sum.cls cX10_sum 7 (some .long) D aC b0 σ0) (htab : ∀ x ∈ c.exceptionTable.toList, False) (hin : meth.name = yX10_sum.name)   {σ : tM} (hm : J_X10_sum_34 b0 fu   σ = some (v, τ)) : tX p l e s m args below meth c 7 7 110 D aC b0 σ0 (rxJ "java/lang/IllegalStateException" v) τ 34 [] [] σ := by
  unfold J_X10_sum_34 at hm
  refine zx_ldc2 (v := (-9)) C W_5_200 dX10_sum_34 ?_
  obtain ⟨rfl, rfl⟩ := ret_e hm
  exact zx_lret C rfl rfl rfl dX10_sum_37
set_option maxRecDepth 100000 in
set_option maxHeartbeats 1000000 in
theorem c_X10_sum {l : Launch} {D : va_G} {aC : Nat → ClassId} {b0 fu : Nat} {a0 : Nat} {p0 : Int32} {p1 : Int32} {p2 : Int32} {σ τ : tM} {v : (Int64) ⊕ Unit} (hm : m_X10_sum b0 fu a0 p0 p1 p2 σ = some (v, τ)) : tMt l D aC b0 yX10_sum (Cond.code yX10_sum cX10_sum 7 (some .long)) 7 110 [.ref (a0), .int (p0), .int (p1), .int (p2)] σ (rxJ "java/lang/IllegalStateException" v) τ := by
  unfold m_X10_sum at hm
  obtain ⟨hg, hm⟩ := grw_e hm
  refine tMt_of (n := 0) rfl (Nat.le_of_ble_eq_true rfl) hg ?_
  intro p e s m below meth c C htab hin
  refine zx_lv [0, 1, 2, 3] [(0, .ref (a0)), (1, .int (p0)), (2, .int (p1)), (3, .int (p2))] rfl ?_
  refine zx_aload_n C dX10_sum_0 0 rfl ?_
  obtain ⟨k1, i2, hm⟩ := ckO_e hm
  obtain ⟨a3, h4, hm⟩ := osm_e hm
  refine zx_get (j := 0) C tC_10 k1 i2 ⟨by decide, Or.inl W_2_213⟩ dX10_sum_1 (.ref a3) (rf_s h4) ?_
  obtain ⟨k5, i6, hm⟩ := ckO_e hm
  rcases clx_e hm with ⟨v7, ρ8, h9, hm⟩ | ⟨ρ8, h9, hm⟩
  · refine zx_callV (σ := σ) C [] tC_0 k5 i6 Y_X0_demandPower W_5_130 W_3_113 W_3_114 (c_X0_demandPower h9) (by decide) (by decide) rfl (Nat.le_of_ble_eq_true rfl) dX10_sum_4 rfl ?_
    refine zx_aload_n C dX10_sum_7 0 rfl ?_
    refine zx_iload_n C dX10_sum_8 1 rfl ?_
    obtain ⟨k10, i11, hm⟩ := ckO_e hm
    obtain ⟨v12, ρ13, h14, hm⟩ := cll_e hm
    refine zx_callV (σ := ρ8) C [.int (p0)] tC_10 k10 i11 Y_X10_fileOf W_5_138 W_5_140 Wp_41 (c_X10_fileOf h14) (by decide) (by decide) rfl (Nat.le_of_ble_eq_true rfl) dX10_sum_9 rfl ?_
    refine zx_istore C [(4, .int (v12)), (0, .ref (a0)), (1, .int (p0)), (2, .int (p1)), (3, .int (p2))] dX10_sum_12 (by decide) rfl ?_
    refine zx_iload C dX10_sum_14 0 rfl ?_
    refine zx_if_lt C 34 dX10_sum_16 (by decide) (fun c15 => ?_) (fun c15 => ?_)
    · replace hm := ip_e hm c15
      exact zx_lv [] [] rfl (j_X10_sum_34 C htab hin    hm)
    · replace hm := in_e hm c15
      refine zx_iload_n C dX10_sum_19 3 rfl ?_
      refine zx_if_lt C 34 dX10_sum_20 (by decide) (fun c16 => ?_) (fun c16 => ?_)
      · replace hm := ip_e hm c16
        exact zx_lv [] [] rfl (j_X10_sum_34 C htab hin    hm)
      · replace hm := in_e hm c16
        refine zx_iload_n C dX10_sum_23 4 rfl ?_
        refine zx_if_lt C 34 dX10_sum_24 (by decide) (fun c17 => ?_) (fun c17 => ?_)
        · replace hm := ip_e hm c17
          exact zx_lv [] [] rfl (j_X10_sum_34 C htab hin    hm)
        · replace hm := in_e hm c17
          refine zx_iload_n C dX10_sum_27 4 rfl ?_
          refine zx_sipush (v := 16384) C dX10_sum_28 (by decide) ?_
          refine zx_icmp_le C 38 dX10_sum_31 (by decide) (fun c18 => ?_) (fun c18 => ?_)
          · replace hm := ip_e hm c18
            refine zx_iconst (v := 0) C dX10_sum_38 (by decide) ?_
            refine zx_aload_n C dX10_sum_39 1 rfl ?_
            obtain ⟨k19, i20, hm⟩ := ckO_e hm
            obtain ⟨a21, h22, hm⟩ := osm_e hm
            refine zx_get (j := 2) C tC_10 k19 i20 ⟨by decide, Or.inl W_2_215⟩ dX10_sum_40 (.ref a21) (rf_s h22) ?_
            refine zx_iload C dX10_sum_43 0 rfl ?_
            obtain ⟨k23, i24, hm⟩ := ckO_e hm
            obtain ⟨v25, ρ26, h27, hm⟩ := cll_e hm
            refine zx_callV (σ := ρ13) C [.int (v12)] tC_8 k23 i24 Y_X8_size W_5_155 W_4_133 W_4_134 (c_X8_size h27) (by decide) (by decide) rfl (Nat.le_of_ble_eq_true rfl) dX10_sum_45 rfl ?_
            refine zx_iload_n C dX10_sum_48 3 rfl ?_
            refine zx_isub C dX10_sum_49 ?_
            refine zx_max C W_5_201 W_2_109 W_1_10 W_2_110 (by decide) (by decide) (Nat.le_of_ble_eq_true rfl) dX10_sum_50 ?_
            refine zx_topi (fun y28 hy28 => ?_)
            replace hm := ltb_e hm hy28
            refine zx_istore C [(5, .int (y28)), (4, .int (v12)), (0, .ref (a0)), (1, .int (p0)), (2, .int (p1)), (3, .int (p2))] dX10_sum_53 (by decide) rfl ?_
            refine zx_iload_n C dX10_sum_55 5 rfl ?_
            refine zx_iload C dX10_sum_56 0 rfl ?_
            refine zx_min C W_5_202 W_2_106 W_1_10 W_2_107 (by decide) (by decide) (Nat.le_of_ble_eq_true rfl) dX10_sum_58 ?_
            refine zx_topi (fun y29 hy29 => ?_)
            replace hm := ltb_e hm hy29
            refine zx_istore C [(6, .int (y29)), (5, .int (y28)), (4, .int (v12)), (0, .ref (a0)), (1, .int (p0)), (2, .int (p1)), (3, .int (p2))] dX10_sum_61 (by decide) rfl ?_
            refine zx_iload C dX10_sum_63 0 rfl ?_
            refine zx_i2l C dX10_sum_65 ?_
            refine zx_bipush (v := 32) C dX10_sum_66 (by decide) ?_
            refine zx_lshl C dX10_sum_68 ?_
            refine zx_aload_n C dX10_sum_69 3 rfl ?_
            obtain ⟨k30, i31, hm⟩ := ckO_e hm
            obtain ⟨a32, h33, hm⟩ := osm_e hm
            refine zx_get (j := 2) C tC_10 k30 i31 ⟨by decide, Or.inl W_2_215⟩ dX10_sum_70 (.ref a32) (rf_s h33) ?_
            refine zx_iload C dX10_sum_73 2 rfl ?_
            refine zx_iload_n C dX10_sum_75 5 rfl ?_
            refine zx_iload C dX10_sum_76 0 rfl ?_
            obtain ⟨k34, i35, hm⟩ := ckO_e hm
            obtain ⟨v36, ρ37, h38, hm⟩ := cll_e hm
            refine zx_callV (σ := ρ26) C [.int (v12), .int (p1), .int (y29)] tC_8 k34 i35 Y_X8_checksum W_5_203 W_5_204 W_5_205 (c_X8_checksum h38) (by decide) (by decide) rfl (Nat.le_of_ble_eq_true rfl) dX10_sum_78 rfl ?_
            refine zx_ladd C dX10_sum_81 ?_
            obtain ⟨rfl, rfl⟩ := ret_e hm
            exact zx_lret C rfl rfl rfl dX10_sum_82
          · replace hm := in_e hm c18
            exact zx_lv [] [] rfl (j_X10_sum_34 C htab hin    hm)
  · cases hm
    exact zx_outV (σ := σ) C htab [] tC_0 k5 i6 Y_X0_demandPower W_5_130 W_3_113 W_3_114 (c_X0_demandPower h9) rfl (by decide) (by decide) rfl (Nat.le_of_ble_eq_true rfl) dX10_sum_4 rfl
abbrev cX10_blockOf : ByteArray := prog_1_method_33_code
def yX10_blockOf : MethodName := ⟨"SyncTree", "blockOf", "(II)I"⟩
theorem Y_X10_blockOf : tY yX10_blockOf cX10_blockOf 5 (some .int) 2 := ⟨W_6_24, W_1_1, ⟨by decide +kernel, by decide +kernel⟩, by decide +kernel⟩
theorem dX10_blockOf_0 : decode cX10_blockOf 0 = .ok (.aload_n 0, 1) := by decide +kernel
theorem dX10_blockOf_1 : decode cX10_blockOf 1 = .ok (.getfield 12, 3) := by decide +kernel
theorem dX10_blockOf_4 : decode cX10_blockOf 4 = .ok (.invokevirtual 221, 3) := by decide +kernel
theorem dX10_blockOf_7 : decode cX10_blockOf 7 = .ok (.aload_n 0, 1) := by decide +kernel
theorem dX10_blockOf_8 : decode cX10_blockOf 8 = .ok (.iload_n 1, 1) := by decide +kernel
theorem dX10_blockOf_9 : decode cX10_blockOf 9 = .ok (.invokevirtual 224, 3) := by decide +kernel
theorem dX10_blockOf_12 : decode cX10_blockOf 12 = .ok (.istore_n 3, 1) := by decide +kernel
theorem dX10_blockOf_13 : decode cX10_blockOf 13 = .ok (.iload_n 3, 1) := by decide +kernel
theorem dX10_blockOf_14 : decode cX10_blockOf 14 = .ok (.ifCond .lt 14, 3) := by decide +kernel
theorem dX10_blockOf_17 : decode cX10_blockOf 17 = .ok (.iload_n 2, 1) := by decide +kernel
theorem dX10_blockOf_18 : decode cX10_blockOf 18 = .ok (.ifCond .lt 10, 3) := by decide +kernel
theorem dX10_blockOf_21 : decode cX10_blockOf 21 = .ok (.iload_n 2, 1) := by decide +kernel
theorem dX10_blockOf_22 : decode cX10_blockOf 22 = .ok (.sipush 1064, 3) := by decide +kernel
theorem dX10_blockOf_25 : decode cX10_blockOf 25 = .ok (.if_icmp .lt 6, 3) := by decide +kernel
theorem dX10_blockOf_28 : decode cX10_blockOf 28 = .ok (.bipush (-9), 2) := by decide +kernel
theorem dX10_blockOf_30 : decode cX10_blockOf 30 = .ok (.ireturn, 1) := by decide +kernel
theorem dX10_blockOf_31 : decode cX10_blockOf 31 = .ok (.aload_n 0, 1) := by decide +kernel
theorem dX10_blockOf_32 : decode cX10_blockOf 32 = .ok (.getfield 28, 3) := by decide +kernel
theorem dX10_blockOf_35 : decode cX10_blockOf 35 = .ok (.iload_n 3, 1) := by decide +kernel
theorem dX10_blockOf_36 : decode cX10_blockOf 36 = .ok (.iload_n 2, 1) := by decide +kernel
theorem dX10_blockOf_37 : decode cX10_blockOf 37 = .ok (.invokevirtual 287, 3) := by decide +kernel
theorem dX10_blockOf_40 : decode cX10_blockOf 40 = .ok (.invokestatic 291, 3) := by decide +kernel
theorem dX10_blockOf_43 : decode cX10_blockOf 43 = .ok (.istore 4, 2) := by decide +kernel
theorem dX10_blockOf_45 : decode cX10_blockOf 45 = .ok (.iload 4, 2) := by decide +kernel
theorem dX10_blockOf_47 : decode cX10_blockOf 47 = .ok (.ifCond .ne 7, 3) := by decide +kernel
theorem dX10_blockOf_50 : decode cX10_blockOf 50 = .ok (.iconst 0, 1) := by decide +kernel
theorem dX10_blockOf_51 : decode cX10_blockOf 51 = .ok (.goto 12, 3) := by decide +kernel
theorem dX10_blockOf_54 : decode cX10_blockOf 54 = .ok (.aload_n 0, 1) := by decide +kernel
theorem dX10_blockOf_55 : decode cX10_blockOf 55 = .ok (.getfield 19, 3) := by decide +kernel
theorem dX10_blockOf_58 : decode cX10_blockOf 58 = .ok (.iload 4, 2) := by decide +kernel
theorem dX10_blockOf_60 : decode cX10_blockOf 60 = .ok (.invokevirtual 295, 3) := by decide +kernel
theorem dX10_blockOf_63 : decode cX10_blockOf 63 = .ok (.ireturn, 1) := by decide +kernel
def J_X10_blockOf_28 (b0 fu : Nat)   (σ : tM) : Option (((Int32) ⊕ Unit) × tM) := some (.inl ((-9)), σ)
def J_X10_blockOf_63 (b0 fu : Nat)  (s0 : Int32) (σ : tM) : Option (((Int32) ⊕ Unit) × tM) := some (.inl (s0), σ)
def m_X10_blockOf (b0 fu : Nat) (a0 : Nat) (p0 : Int32) (p1 : Int32) (σ : tM) : Option (((Int32) ⊕ Unit) × tM) := grw σ (ckO b0 (σ) (a0) 10 (osm (tA (σ) (a0) 0) (fun a3 => ckO b0 (σ) (a3) 0 (clx (m_X0_demandPower b0 fu (a3) (σ)) (fun v7 ρ8 => ckO b0 (ρ8) (a0) 10 (cll (m_X10_fileOf b0 fu (a0) (p0) (ρ8)) (fun v12 ρ13 => if (v12) < (0) then J_X10_blockOf_28 b0 fu    (ρ13) else if (p1) < (0) then J_X10_blockOf_28 b0 fu    (ρ13) else if (p1) < (1064) then ckO b0 (ρ13) (a0) 10 (osm (tA (ρ13) (a0) 2) (fun a20 => ckO b0 (ρ13) (a20) 8 (cll (m_X8_pointer b0 fu (a20) (v12) (p1) (ρ13)) (fun v24 ρ25 => cll (m_X8_cellOf b0 fu (v24) (ρ25)) (fun v27 ρ28 => if (v27) = (0) then J_X10_blockOf_63 b0 fu   (0) (ρ28) else ckO b0 (ρ28) (a0) 10 (osm (tA (ρ28) (a0) 1) (fun a33 => ckO b0 (ρ28) (a33) 5 (cll (m_X5_numberOf b0 fu (a33) (v27) (ρ28)) (fun v37 ρ38 => J_X10_blockOf_63 b0 fu   (v37) (ρ38)))))))))) else J_X10_blockOf_28 b0 fu    (ρ13))))))))
set_option maxRecDepth 100000 in
set_option maxHeartbeats 1000000 in
theorem j_X10_blockOf_28 {p : Program} {l : Launch} {e : Env} {s : State} {m : MethodId} {args : Array Value} {below : List Frame} {meth : Method} {c : Code} {D : va_G} {aC : Nat → ClassId} {b0 fu : Nat} {σ0 τ : tM} {v : (Int32) ⊕ Unit}  (C : tCx p l s m args meth c yX10_blockOf.cls cX10_blockOf 5 (some .int) D aC b0 σ0) (htab : ∀ x ∈ c.exceptionTable.toList, False) (hin : meth.name = yX10_blockOf.name)   {σ : tM} (hm : J_X10_blockOf_28 b0 fu   σ = some (v, τ)) : tX p l e s m args below meth c 5 7 110 D aC b0 σ0 (rxI "java/lang/IllegalStateException" v) τ 28 [] [] σ := by
  unfold J_X10_blockOf_28 at hm
  refine zx_bipush (v := (-9)) C dX10_blockOf_28 (by decide) ?_
  obtain ⟨rfl, rfl⟩ := ret_e hm
  exact zx_iret C rfl rfl rfl dX10_blockOf_30
set_option maxRecDepth 100000 in
set_option maxHeartbeats 1000000 in
theorem j_X10_blockOf_63 {p : Program} {l : Launch} {e : Env} {s : State} {m : MethodId} {args : Array Value} {below : List Frame} {meth : Method} {c : Code} {D : va_G} {aC : Nat → ClassId} {b0 fu : Nat} {σ0 τ : tM} {v : (Int32) ⊕ Unit}  (C : tCx p l s m args meth c yX10_blockOf.cls cX10_blockOf 5 (some .int) D aC b0 σ0) (htab : ∀ x ∈ c.exceptionTable.toList, False) (hin : meth.name = yX10_blockOf.name)  {s0 : Int32} {σ : tM} (hm : J_X10_blockOf_63 b0 fu  s0 σ = some (v, τ)) : tX p l e s m args below meth c 5 7 110 D aC b0 σ0 (rxI "java/lang/IllegalStateException" v) τ 63 [] [.int (s0)] σ := by
  unfold J_X10_blockOf_63 at hm
  obtain ⟨rfl, rfl⟩ := ret_e hm
  exact zx_iret C rfl rfl rfl dX10_blockOf_63
set_option maxRecDepth 100000 in
set_option maxHeartbeats 1000000 in
theorem c_X10_blockOf {l : Launch} {D : va_G} {aC : Nat → ClassId} {b0 fu : Nat} {a0 : Nat} {p0 : Int32} {p1 : Int32} {σ τ : tM} {v : (Int32) ⊕ Unit} (hm : m_X10_blockOf b0 fu a0 p0 p1 σ = some (v, τ)) : tMt l D aC b0 yX10_blockOf (Cond.code yX10_blockOf cX10_blockOf 5 (some .int)) 7 110 [.ref (a0), .int (p0), .int (p1)] σ (rxI "java/lang/IllegalStateException" v) τ := by
  unfold m_X10_blockOf at hm
  obtain ⟨hg, hm⟩ := grw_e hm
  refine tMt_of (n := 0) rfl (Nat.le_of_ble_eq_true rfl) hg ?_
  intro p e s m below meth c C htab hin
  refine zx_lv [0, 1, 2] [(0, .ref (a0)), (1, .int (p0)), (2, .int (p1))] rfl ?_
  refine zx_aload_n C dX10_blockOf_0 0 rfl ?_
  obtain ⟨k1, i2, hm⟩ := ckO_e hm
  obtain ⟨a3, h4, hm⟩ := osm_e hm
  refine zx_get (j := 0) C tC_10 k1 i2 ⟨by decide, Or.inl W_2_213⟩ dX10_blockOf_1 (.ref a3) (rf_s h4) ?_
  obtain ⟨k5, i6, hm⟩ := ckO_e hm
  rcases clx_e hm with ⟨v7, ρ8, h9, hm⟩ | ⟨ρ8, h9, hm⟩
  · refine zx_callV (σ := σ) C [] tC_0 k5 i6 Y_X0_demandPower W_5_130 W_3_113 W_3_114 (c_X0_demandPower h9) (by decide) (by decide) rfl (Nat.le_of_ble_eq_true rfl) dX10_blockOf_4 rfl ?_
    refine zx_aload_n C dX10_blockOf_7 0 rfl ?_
    refine zx_iload_n C dX10_blockOf_8 1 rfl ?_
    obtain ⟨k10, i11, hm⟩ := ckO_e hm
    obtain ⟨v12, ρ13, h14, hm⟩ := cll_e hm
    refine zx_callV (σ := ρ8) C [.int (p0)] tC_10 k10 i11 Y_X10_fileOf W_5_138 W_5_140 Wp_41 (c_X10_fileOf h14) (by decide) (by decide) rfl (Nat.le_of_ble_eq_true rfl) dX10_blockOf_9 rfl ?_
    refine zx_istore_n C [(3, .int (v12)), (0, .ref (a0)), (1, .int (p0)), (2, .int (p1))] dX10_blockOf_12 rfl (by decide) rfl ?_
    refine zx_iload_n C dX10_blockOf_13 0 rfl ?_
    refine zx_if_lt C 28 dX10_blockOf_14 (by decide) (fun c15 => ?_) (fun c15 => ?_)
    · replace hm := ip_e hm c15
      exact zx_lv [] [] rfl (j_X10_blockOf_28 C htab hin    hm)
    · replace hm := in_e hm c15
      refine zx_iload_n C dX10_blockOf_17 3 rfl ?_
      refine zx_if_lt C 28 dX10_blockOf_18 (by decide) (fun c16 => ?_) (fun c16 => ?_)
      · replace hm := ip_e hm c16
        exact zx_lv [] [] rfl (j_X10_blockOf_28 C htab hin    hm)
      · replace hm := in_e hm c16
        refine zx_iload_n C dX10_blockOf_21 3 rfl ?_
        refine zx_sipush (v := 1064) C dX10_blockOf_22 (by decide) ?_
        refine zx_icmp_lt C 31 dX10_blockOf_25 (by decide) (fun c17 => ?_) (fun c17 => ?_)
        · replace hm := ip_e hm c17
          refine zx_aload_n C dX10_blockOf_31 1 rfl ?_
          obtain ⟨k18, i19, hm⟩ := ckO_e hm
          obtain ⟨a20, h21, hm⟩ := osm_e hm
          refine zx_get (j := 2) C tC_10 k18 i19 ⟨by decide, Or.inl W_2_215⟩ dX10_blockOf_32 (.ref a20) (rf_s h21) ?_
          refine zx_iload_n C dX10_blockOf_35 0 rfl ?_
          refine zx_iload_n C dX10_blockOf_36 3 rfl ?_
          obtain ⟨k22, i23, hm⟩ := ckO_e hm
          obtain ⟨v24, ρ25, h26, hm⟩ := cll_e hm
          refine zx_callV (σ := ρ13) C [.int (v12), .int (p1)] tC_8 k22 i23 Y_X8_pointer W_6_25 W_4_110 W_4_111 (c_X8_pointer h26) (by decide) (by decide) rfl (Nat.le_of_ble_eq_true rfl) dX10_blockOf_37 rfl ?_
          obtain ⟨v27, ρ28, h29, hm⟩ := cll_e hm
          refine zx_callS (σ := ρ25) C [.long (v24)] Y_X8_cellOf W_6_26 W_4_118 (c_X8_cellOf h29) (by decide) (by decide) rfl (Nat.le_of_ble_eq_true rfl) dX10_blockOf_40 rfl ?_
          refine zx_istore C [(4, .int (v27)), (3, .int (v12)), (0, .ref (a0)), (1, .int (p0)), (2, .int (p1))] dX10_blockOf_43 (by decide) rfl ?_
          refine zx_iload C dX10_blockOf_45 0 rfl ?_
          refine zx_if_ne C 54 dX10_blockOf_47 (by decide) (fun c30 => ?_) (fun c30 => ?_)
          · replace hm := in_e hm c30
            refine zx_aload_n C dX10_blockOf_54 2 rfl ?_
            obtain ⟨k31, i32, hm⟩ := ckO_e hm
            obtain ⟨a33, h34, hm⟩ := osm_e hm
            refine zx_get (j := 1) C tC_10 k31 i32 ⟨by decide, Or.inl W_2_214⟩ dX10_blockOf_55 (.ref a33) (rf_s h34) ?_
            refine zx_iload C dX10_blockOf_58 0 rfl ?_
            obtain ⟨k35, i36, hm⟩ := ckO_e hm
            obtain ⟨v37, ρ38, h39, hm⟩ := cll_e hm
            refine zx_callV (σ := ρ28) C [.int (v27)] tC_5 k35 i36 Y_X5_numberOf W_6_27 W_4_6 W_4_7 (c_X5_numberOf h39) (by decide) (by decide) rfl (Nat.le_of_ble_eq_true rfl) dX10_blockOf_60 rfl ?_
            exact zx_lv [] [] rfl (j_X10_blockOf_63 C htab hin    hm)
          · replace hm := ip_e hm c30
            refine zx_iconst (v := 0) C dX10_blockOf_50 (by decide) ?_
            refine zx_goto C 63 dX10_blockOf_51 (by decide) ?_
            exact zx_lv [] [] rfl (j_X10_blockOf_63 C htab hin    hm)
        · replace hm := in_e hm c17
          exact zx_lv [] [] rfl (j_X10_blockOf_28 C htab hin    hm)
  · cases hm
    exact zx_outV (σ := σ) C htab [] tC_0 k5 i6 Y_X0_demandPower W_5_130 W_3_113 W_3_114 (c_X0_demandPower h9) rfl (by decide) (by decide) rfl (Nat.le_of_ble_eq_true rfl) dX10_blockOf_4 rfl
abbrev cX10_cut : ByteArray := prog_1_method_41_code
def yX10_cut : MethodName := ⟨"SyncTree", "cut", "(I)I"⟩
theorem Y_X10_cut : tY yX10_cut cX10_cut 2 (some .int) 1 := ⟨W_3_41, W_1_1, ⟨by decide +kernel, by decide +kernel⟩, by decide +kernel⟩
theorem dX10_cut_0 : decode cX10_cut 0 = .ok (.iload_n 1, 1) := by decide +kernel
theorem dX10_cut_1 : decode cX10_cut 1 = .ok (.iconst (-1), 1) := by decide +kernel
theorem dX10_cut_2 : decode cX10_cut 2 = .ok (.if_icmp .ge 6, 3) := by decide +kernel
theorem dX10_cut_5 : decode cX10_cut 5 = .ok (.bipush (-9), 2) := by decide +kernel
theorem dX10_cut_7 : decode cX10_cut 7 = .ok (.ireturn, 1) := by decide +kernel
theorem dX10_cut_8 : decode cX10_cut 8 = .ok (.aload_n 0, 1) := by decide +kernel
theorem dX10_cut_9 : decode cX10_cut 9 = .ok (.getfield 12, 3) := by decide +kernel
theorem dX10_cut_12 : decode cX10_cut 12 = .ok (.iload_n 1, 1) := by decide +kernel
theorem dX10_cut_13 : decode cX10_cut 13 = .ok (.putfield 343, 3) := by decide +kernel
theorem dX10_cut_16 : decode cX10_cut 16 = .ok (.iload_n 1, 1) := by decide +kernel
theorem dX10_cut_17 : decode cX10_cut 17 = .ok (.ireturn, 1) := by decide +kernel
def m_X10_cut (b0 fu : Nat) (a0 : Nat) (p0 : Int32) (σ : tM) : Option ((Int32) × tM) := grw σ (if ((-1)) ≤ (p0) then ckO b0 (σ) (a0) 10 (osm (tA (σ) (a0) 0) (fun a4 => ckO b0 (σ) (a4) 0 (some (p0, sI (σ) (a4) 13 (p0))))) else some ((-9), σ))
set_option maxRecDepth 100000 in
set_option maxHeartbeats 1000000 in
theorem c_X10_cut {l : Launch} {D : va_G} {aC : Nat → ClassId} {b0 fu : Nat} {a0 : Nat} {p0 : Int32} {σ τ : tM} {v : Int32} (hm : m_X10_cut b0 fu a0 p0 σ = some (v, τ)) : tMt l D aC b0 yX10_cut (Cond.code yX10_cut cX10_cut 2 (some .int)) 0 0 [.ref (a0), .int (p0)] σ (.inl (some (.int v))) τ := by
  unfold m_X10_cut at hm
  obtain ⟨hg, hm⟩ := grw_e hm
  refine tMt_of (n := 0) rfl (Nat.le_of_ble_eq_true rfl) hg ?_
  intro p e s m below meth c C htab hin
  refine zx_lv [0, 1] [(0, .ref (a0)), (1, .int (p0))] rfl ?_
  refine zx_iload_n C dX10_cut_0 1 rfl ?_
  refine zx_iconst (v := (-1)) C dX10_cut_1 (by decide) ?_
  refine zx_icmp_ge C 8 dX10_cut_2 (by decide) (fun c1 => ?_) (fun c1 => ?_)
  · replace hm := ip_e hm c1
    refine zx_aload_n C dX10_cut_8 0 rfl ?_
    obtain ⟨k2, i3, hm⟩ := ckO_e hm
    obtain ⟨a4, h5, hm⟩ := osm_e hm
    refine zx_get (j := 0) C tC_10 k2 i3 ⟨by decide, Or.inl W_2_213⟩ dX10_cut_9 (.ref a4) (rf_s h5) ?_
    refine zx_iload_n C dX10_cut_12 1 rfl ?_
    obtain ⟨k6, i7, hm⟩ := ckO_e hm
    refine zx_put (j := 13) (ρ := sI (σ) (a4) 13 (p0)) C tC_0 k6 i7 ⟨by decide, Or.inr ⟨_, W_1_51⟩⟩ rfl rfl rfl (sI_ok (fun _ => rfl)) dX10_cut_13 ?_
    refine zx_iload_n C dX10_cut_16 1 rfl ?_
    obtain ⟨rfl, rfl⟩ := ret_e hm
    exact zx_iret C rfl rfl rfl dX10_cut_17
  · replace hm := in_e hm c1
    refine zx_bipush (v := (-9)) C dX10_cut_5 (by decide) ?_
    obtain ⟨rfl, rfl⟩ := ret_e hm
    exact zx_iret C rfl rfl rfl dX10_cut_7
abbrev cX10_crash : ByteArray := prog_1_method_42_code
def yX10_crash : MethodName := ⟨"SyncTree", "crash", "()I"⟩
theorem Y_X10_crash : tY yX10_crash cX10_crash 1 (some .int) 0 := ⟨W_6_108, W_1_1, ⟨by decide +kernel, by decide +kernel⟩, by decide +kernel⟩
theorem dX10_crash_0 : decode cX10_crash 0 = .ok (.aload_n 0, 1) := by decide +kernel
theorem dX10_crash_1 : decode cX10_crash 1 = .ok (.getfield 12, 3) := by decide +kernel
theorem dX10_crash_4 : decode cX10_crash 4 = .ok (.invokevirtual 221, 3) := by decide +kernel
theorem dX10_crash_7 : decode cX10_crash 7 = .ok (.aload_n 0, 1) := by decide +kernel
theorem dX10_crash_8 : decode cX10_crash 8 = .ok (.getfield 12, 3) := by decide +kernel
theorem dX10_crash_11 : decode cX10_crash 11 = .ok (.invokevirtual 346, 3) := by decide +kernel
theorem dX10_crash_14 : decode cX10_crash 14 = .ok (.aload_n 0, 1) := by decide +kernel
theorem dX10_crash_15 : decode cX10_crash 15 = .ok (.getfield 12, 3) := by decide +kernel
theorem dX10_crash_18 : decode cX10_crash 18 = .ok (.getfield 349, 3) := by decide +kernel
theorem dX10_crash_21 : decode cX10_crash 21 = .ok (.ireturn, 1) := by decide +kernel
def m_X10_crash (b0 fu : Nat) (a0 : Nat) (σ : tM) : Option (((Int32) ⊕ Unit) × tM) := grw σ (ckO b0 (σ) (a0) 10 (osm (tA (σ) (a0) 0) (fun a3 => ckO b0 (σ) (a3) 0 (clx (m_X0_demandPower b0 fu (a3) (σ)) (fun v7 ρ8 => ckO b0 (ρ8) (a0) 10 (osm (tA (ρ8) (a0) 0) (fun a12 => ckO b0 (ρ8) (a12) 0 (cll (m_X0_losePower b0 fu (a12) (ρ8)) (fun v16 ρ17 => ckO b0 (ρ17) (a0) 10 (osm (tA (ρ17) (a0) 0) (fun a21 => ckO b0 (ρ17) (a21) 0 (some (.inl (tI (ρ17) (a21) 10), ρ17)))))))))))))
set_option maxRecDepth 100000 in
set_option maxHeartbeats 1000000 in
theorem c_X10_crash {l : Launch} {D : va_G} {aC : Nat → ClassId} {b0 fu : Nat} {a0 : Nat} {σ τ : tM} {v : (Int32) ⊕ Unit} (hm : m_X10_crash b0 fu a0 σ = some (v, τ)) : tMt l D aC b0 yX10_crash (Cond.code yX10_crash cX10_crash 1 (some .int)) 7 110 [.ref (a0)] σ (rxI "java/lang/IllegalStateException" v) τ := by
  unfold m_X10_crash at hm
  obtain ⟨hg, hm⟩ := grw_e hm
  refine tMt_of (n := 0) rfl (Nat.le_of_ble_eq_true rfl) hg ?_
  intro p e s m below meth c C htab hin
  refine zx_lv [0] [(0, .ref (a0))] rfl ?_
  refine zx_aload_n C dX10_crash_0 0 rfl ?_
  obtain ⟨k1, i2, hm⟩ := ckO_e hm
  obtain ⟨a3, h4, hm⟩ := osm_e hm
  refine zx_get (j := 0) C tC_10 k1 i2 ⟨by decide, Or.inl W_2_213⟩ dX10_crash_1 (.ref a3) (rf_s h4) ?_
  obtain ⟨k5, i6, hm⟩ := ckO_e hm
  rcases clx_e hm with ⟨v7, ρ8, h9, hm⟩ | ⟨ρ8, h9, hm⟩
  · refine zx_callV (σ := σ) C [] tC_0 k5 i6 Y_X0_demandPower W_5_130 W_3_113 W_3_114 (c_X0_demandPower h9) (by decide) (by decide) rfl (Nat.le_of_ble_eq_true rfl) dX10_crash_4 rfl ?_
    refine zx_aload_n C dX10_crash_7 0 rfl ?_
    obtain ⟨k10, i11, hm⟩ := ckO_e hm
    obtain ⟨a12, h13, hm⟩ := osm_e hm
    refine zx_get (j := 0) C tC_10 k10 i11 ⟨by decide, Or.inl W_2_213⟩ dX10_crash_8 (.ref a12) (rf_s h13) ?_
    obtain ⟨k14, i15, hm⟩ := ckO_e hm
    obtain ⟨v16, ρ17, h18, hm⟩ := cll_e hm
    refine zx_callV (σ := ρ8) C [] tC_0 k14 i15 Y_X0_losePower W_6_109 W_3_204 W_3_205 (c_X0_losePower h18) (by decide) (by decide) rfl (Nat.le_of_ble_eq_true rfl) dX10_crash_11 rfl ?_
    refine zx_aload_n C dX10_crash_14 0 rfl ?_
    obtain ⟨k19, i20, hm⟩ := ckO_e hm
    obtain ⟨a21, h22, hm⟩ := osm_e hm
    refine zx_get (j := 0) C tC_10 k19 i20 ⟨by decide, Or.inl W_2_213⟩ dX10_crash_15 (.ref a21) (rf_s h22) ?_
    obtain ⟨k23, i24, hm⟩ := ckO_e hm
    refine zx_get (j := 10) C tC_0 k23 i24 ⟨by decide, Or.inr ⟨_, W_1_47⟩⟩ dX10_crash_18 (.int (tI (ρ17) (a21) 10)) rfl ?_
    obtain ⟨rfl, rfl⟩ := ret_e hm
    exact zx_iret C rfl rfl rfl dX10_crash_21
  · cases hm
    exact zx_outV (σ := σ) C htab [] tC_0 k5 i6 Y_X0_demandPower W_5_130 W_3_113 W_3_114 (c_X0_demandPower h9) rfl (by decide) (by decide) rfl (Nat.le_of_ble_eq_true rfl) dX10_crash_4 rfl
abbrev cX10_choose : ByteArray := prog_1_method_43_code
def yX10_choose : MethodName := ⟨"SyncTree", "choose", "(II)I"⟩
theorem Y_X10_choose : tY yX10_choose cX10_choose 3 (some .int) 2 := ⟨W_3_45, W_1_1, ⟨by decide +kernel, by decide +kernel⟩, by decide +kernel⟩
theorem dX10_choose_0 : decode cX10_choose 0 = .ok (.aload_n 0, 1) := by decide +kernel
theorem dX10_choose_1 : decode cX10_choose 1 = .ok (.getfield 12, 3) := by decide +kernel
theorem dX10_choose_4 : decode cX10_choose 4 = .ok (.getfield 352, 3) := by decide +kernel
theorem dX10_choose_7 : decode cX10_choose 7 = .ok (.ifCond .ne 19, 3) := by decide +kernel
theorem dX10_choose_10 : decode cX10_choose 10 = .ok (.iload_n 2, 1) := by decide +kernel
theorem dX10_choose_11 : decode cX10_choose 11 = .ok (.ifCond .lt 15, 3) := by decide +kernel
theorem dX10_choose_14 : decode cX10_choose 14 = .ok (.iload_n 2, 1) := by decide +kernel
theorem dX10_choose_15 : decode cX10_choose 15 = .ok (.aload_n 0, 1) := by decide +kernel
theorem dX10_choose_16 : decode cX10_choose 16 = .ok (.getfield 12, 3) := by decide +kernel
theorem dX10_choose_19 : decode cX10_choose 19 = .ok (.iload_n 1, 1) := by decide +kernel
theorem dX10_choose_20 : decode cX10_choose 20 = .ok (.invokevirtual 356, 3) := by decide +kernel
theorem dX10_choose_23 : decode cX10_choose 23 = .ok (.if_icmp .le 6, 3) := by decide +kernel
theorem dX10_choose_26 : decode cX10_choose 26 = .ok (.bipush (-9), 2) := by decide +kernel
theorem dX10_choose_28 : decode cX10_choose 28 = .ok (.ireturn, 1) := by decide +kernel
theorem dX10_choose_29 : decode cX10_choose 29 = .ok (.aload_n 0, 1) := by decide +kernel
theorem dX10_choose_30 : decode cX10_choose 30 = .ok (.getfield 12, 3) := by decide +kernel
theorem dX10_choose_33 : decode cX10_choose 33 = .ok (.iload_n 1, 1) := by decide +kernel
theorem dX10_choose_34 : decode cX10_choose 34 = .ok (.iload_n 2, 1) := by decide +kernel
theorem dX10_choose_35 : decode cX10_choose 35 = .ok (.invokevirtual 359, 3) := by decide +kernel
theorem dX10_choose_38 : decode cX10_choose 38 = .ok (.aload_n 0, 1) := by decide +kernel
theorem dX10_choose_39 : decode cX10_choose 39 = .ok (.getfield 12, 3) := by decide +kernel
theorem dX10_choose_42 : decode cX10_choose 42 = .ok (.iload_n 1, 1) := by decide +kernel
theorem dX10_choose_43 : decode cX10_choose 43 = .ok (.invokevirtual 356, 3) := by decide +kernel
theorem dX10_choose_46 : decode cX10_choose 46 = .ok (.ireturn, 1) := by decide +kernel
def J_X10_choose_26 (b0 fu : Nat)   (σ : tM) : Option ((Int32) × tM) := some ((-9), σ)
def m_X10_choose (b0 fu : Nat) (a0 : Nat) (p0 : Int32) (p1 : Int32) (σ : tM) : Option ((Int32) × tM) := grw σ (ckO b0 (σ) (a0) 10 (osm (tA (σ) (a0) 0) (fun a3 => ckO b0 (σ) (a3) 0 (if (tI (σ) (a3) 14) = (0) then if (p1) < (0) then J_X10_choose_26 b0 fu    (σ) else osm (tA (σ) (a0) 0) (fun a9 => ckO b0 (σ) (a9) 0 (cll (m_X0_countOf b0 fu (a9) (p0) (σ)) (fun v13 ρ14 => if (p1) ≤ (v13) then ckO b0 (ρ14) (a0) 10 (osm (tA (ρ14) (a0) 0) (fun a19 => ckO b0 (ρ14) (a19) 0 (cll (m_X0_setChoice b0 fu (a19) (p0) (p1) (ρ14)) (fun v23 ρ24 => ckO b0 (ρ24) (a0) 10 (osm (tA (ρ24) (a0) 0) (fun a28 => ckO b0 (ρ24) (a28) 0 (cll (m_X0_countOf b0 fu (a28) (p0) (ρ24)) (fun v32 ρ33 => some (v32, ρ33))))))))) else J_X10_choose_26 b0 fu    (ρ14)))) else J_X10_choose_26 b0 fu    (σ)))))
set_option maxRecDepth 100000 in
set_option maxHeartbeats 1000000 in
theorem j_X10_choose_26 {p : Program} {l : Launch} {e : Env} {s : State} {m : MethodId} {args : Array Value} {below : List Frame} {meth : Method} {c : Code} {D : va_G} {aC : Nat → ClassId} {b0 fu : Nat} {σ0 τ : tM} {v : Int32}  (C : tCx p l s m args meth c yX10_choose.cls cX10_choose 3 (some .int) D aC b0 σ0) (htab : ∀ x ∈ c.exceptionTable.toList, False) (hin : meth.name = yX10_choose.name)   {σ : tM} (hm : J_X10_choose_26 b0 fu   σ = some (v, τ)) : tX p l e s m args below meth c 3 1 22 D aC b0 σ0 (.inl (some (.int v))) τ 26 [] [] σ := by
  unfold J_X10_choose_26 at hm
  refine zx_bipush (v := (-9)) C dX10_choose_26 (by decide) ?_
  obtain ⟨rfl, rfl⟩ := ret_e hm
  exact zx_iret C rfl rfl rfl dX10_choose_28
set_option maxRecDepth 100000 in
set_option maxHeartbeats 1000000 in
theorem c_X10_choose {l : Launch} {D : va_G} {aC : Nat → ClassId} {b0 fu : Nat} {a0 : Nat} {p0 : Int32} {p1 : Int32} {σ τ : tM} {v : Int32} (hm : m_X10_choose b0 fu a0 p0 p1 σ = some (v, τ)) : tMt l D aC b0 yX10_choose (Cond.code yX10_choose cX10_choose 3 (some .int)) 1 22 [.ref (a0), .int (p0), .int (p1)] σ (.inl (some (.int v))) τ := by
  unfold m_X10_choose at hm
  obtain ⟨hg, hm⟩ := grw_e hm
  refine tMt_of (n := 0) rfl (Nat.le_of_ble_eq_true rfl) hg ?_
  intro p e s m below meth c C htab hin
  refine zx_lv [0, 1, 2] [(0, .ref (a0)), (1, .int (p0)), (2, .int (p1))] rfl ?_
  refine zx_aload_n C dX10_choose_0 0 rfl ?_
  obtain ⟨k1, i2, hm⟩ := ckO_e hm
  obtain ⟨a3, h4, hm⟩ := osm_e hm
  refine zx_get (j := 0) C tC_10 k1 i2 ⟨by decide, Or.inl W_2_213⟩ dX10_choose_1 (.ref a3) (rf_s h4) ?_
  obtain ⟨k5, i6, hm⟩ := ckO_e hm
  refine zx_get (j := 14) C tC_0 k5 i6 ⟨by decide, Or.inr ⟨_, W_1_53⟩⟩ dX10_choose_4 (.int (tI (σ) (a3) 14)) rfl ?_
  refine zx_if_ne C 26 dX10_choose_7 (by decide) (fun c7 => ?_) (fun c7 => ?_)
  · replace hm := in_e hm c7
    exact zx_lv [] [] rfl (j_X10_choose_26 C htab hin    hm)
  · replace hm := ip_e hm c7
    refine zx_iload_n C dX10_choose_10 2 rfl ?_
    refine zx_if_lt C 26 dX10_choose_11 (by decide) (fun c8 => ?_) (fun c8 => ?_)
    · replace hm := ip_e hm c8
      exact zx_lv [] [] rfl (j_X10_choose_26 C htab hin    hm)
    · replace hm := in_e hm c8
      refine zx_iload_n C dX10_choose_14 2 rfl ?_
      refine zx_aload_n C dX10_choose_15 0 rfl ?_
      obtain ⟨a9, h10, hm⟩ := osm_e hm
      refine zx_get (j := 0) C tC_10 k1 i2 ⟨by decide, Or.inl W_2_213⟩ dX10_choose_16 (.ref a9) (rf_s h10) ?_
      refine zx_iload_n C dX10_choose_19 1 rfl ?_
      obtain ⟨k11, i12, hm⟩ := ckO_e hm
      obtain ⟨v13, ρ14, h15, hm⟩ := cll_e hm
      refine zx_callV (σ := σ) C [.int (p0)] tC_0 k11 i12 Y_X0_countOf W_3_46 W_3_47 W_3_48 (c_X0_countOf h15) (by decide) (by decide) rfl (Nat.le_of_ble_eq_true rfl) dX10_choose_20 rfl ?_
      refine zx_icmp_le C 29 dX10_choose_23 (by decide) (fun c16 => ?_) (fun c16 => ?_)
      · replace hm := ip_e hm c16
        refine zx_aload_n C dX10_choose_29 0 rfl ?_
        obtain ⟨k17, i18, hm⟩ := ckO_e hm
        obtain ⟨a19, h20, hm⟩ := osm_e hm
        refine zx_get (j := 0) C tC_10 k17 i18 ⟨by decide, Or.inl W_2_213⟩ dX10_choose_30 (.ref a19) (rf_s h20) ?_
        refine zx_iload_n C dX10_choose_33 1 rfl ?_
        refine zx_iload_n C dX10_choose_34 2 rfl ?_
        obtain ⟨k21, i22, hm⟩ := ckO_e hm
        obtain ⟨v23, ρ24, h25, hm⟩ := cll_e hm
        refine zx_callV (σ := ρ14) C [.int (p0), .int (p1)] tC_0 k21 i22 Y_X0_setChoice W_3_50 W_3_51 W_3_52 (c_X0_setChoice h25) (by decide) (by decide) rfl (Nat.le_of_ble_eq_true rfl) dX10_choose_35 rfl ?_
        refine zx_aload_n C dX10_choose_38 0 rfl ?_
        obtain ⟨k26, i27, hm⟩ := ckO_e hm
        obtain ⟨a28, h29, hm⟩ := osm_e hm
        refine zx_get (j := 0) C tC_10 k26 i27 ⟨by decide, Or.inl W_2_213⟩ dX10_choose_39 (.ref a28) (rf_s h29) ?_
        refine zx_iload_n C dX10_choose_42 1 rfl ?_
        obtain ⟨k30, i31, hm⟩ := ckO_e hm
        obtain ⟨v32, ρ33, h34, hm⟩ := cll_e hm
        refine zx_callV (σ := ρ24) C [.int (p0)] tC_0 k30 i31 Y_X0_countOf W_3_46 W_3_47 W_3_48 (c_X0_countOf h34) (by decide) (by decide) rfl (Nat.le_of_ble_eq_true rfl) dX10_choose_43 rfl ?_
        obtain ⟨rfl, rfl⟩ := ret_e hm
        exact zx_iret C rfl rfl rfl dX10_choose_46
      · replace hm := in_e hm c16
        exact zx_lv [] [] rfl (j_X10_choose_26 C htab hin    hm)
abbrev cX10_shuffle : ByteArray := prog_1_method_44_code
def yX10_shuffle : MethodName := ⟨"SyncTree", "shuffle", "(J)I"⟩
theorem Y_X10_shuffle : tY yX10_shuffle cX10_shuffle 3 (some .int) 1 := ⟨W_3_57, W_1_1, ⟨by decide +kernel, by decide +kernel⟩, by decide +kernel⟩
theorem dX10_shuffle_0 : decode cX10_shuffle 0 = .ok (.aload_n 0, 1) := by decide +kernel
theorem dX10_shuffle_1 : decode cX10_shuffle 1 = .ok (.getfield 12, 3) := by decide +kernel
theorem dX10_shuffle_4 : decode cX10_shuffle 4 = .ok (.getfield 352, 3) := by decide +kernel
theorem dX10_shuffle_7 : decode cX10_shuffle 7 = .ok (.ifCond .eq 8, 3) := by decide +kernel
theorem dX10_shuffle_10 : decode cX10_shuffle 10 = .ok (.bipush (-9), 2) := by decide +kernel
theorem dX10_shuffle_12 : decode cX10_shuffle 12 = .ok (.goto 11, 3) := by decide +kernel
theorem dX10_shuffle_15 : decode cX10_shuffle 15 = .ok (.aload_n 0, 1) := by decide +kernel
theorem dX10_shuffle_16 : decode cX10_shuffle 16 = .ok (.getfield 12, 3) := by decide +kernel
theorem dX10_shuffle_19 : decode cX10_shuffle 19 = .ok (.lload_n 1, 1) := by decide +kernel
theorem dX10_shuffle_20 : decode cX10_shuffle 20 = .ok (.invokevirtual 362, 3) := by decide +kernel
theorem dX10_shuffle_23 : decode cX10_shuffle 23 = .ok (.ireturn, 1) := by decide +kernel
def J_X10_shuffle_23 (b0 fu : Nat)  (s0 : Int32) (σ : tM) : Option ((Int32) × tM) := some (s0, σ)
def m_X10_shuffle (b0 fu : Nat) (a0 : Nat) (p0 : Int64) (σ : tM) : Option ((Int32) × tM) := grw σ (ckO b0 (σ) (a0) 10 (osm (tA (σ) (a0) 0) (fun a3 => ckO b0 (σ) (a3) 0 (if (tI (σ) (a3) 14) = (0) then osm (tA (σ) (a0) 0) (fun a8 => ckO b0 (σ) (a8) 0 (cll (m_X0_chooseAll b0 fu (a8) (p0) (σ)) (fun v12 ρ13 => J_X10_shuffle_23 b0 fu   (v12) (ρ13)))) else J_X10_shuffle_23 b0 fu   ((-9)) (σ)))))
set_option maxRecDepth 100000 in
set_option maxHeartbeats 1000000 in
theorem j_X10_shuffle_23 {p : Program} {l : Launch} {e : Env} {s : State} {m : MethodId} {args : Array Value} {below : List Frame} {meth : Method} {c : Code} {D : va_G} {aC : Nat → ClassId} {b0 fu : Nat} {σ0 τ : tM} {v : Int32}  (C : tCx p l s m args meth c yX10_shuffle.cls cX10_shuffle 3 (some .int) D aC b0 σ0) (htab : ∀ x ∈ c.exceptionTable.toList, False) (hin : meth.name = yX10_shuffle.name)  {s0 : Int32} {σ : tM} (hm : J_X10_shuffle_23 b0 fu  s0 σ = some (v, τ)) : tX p l e s m args below meth c 3 1 25 D aC b0 σ0 (.inl (some (.int v))) τ 23 [] [.int (s0)] σ := by
  unfold J_X10_shuffle_23 at hm
  obtain ⟨rfl, rfl⟩ := ret_e hm
  exact zx_iret C rfl rfl rfl dX10_shuffle_23
set_option maxRecDepth 100000 in
set_option maxHeartbeats 1000000 in
theorem c_X10_shuffle {l : Launch} {D : va_G} {aC : Nat → ClassId} {b0 fu : Nat} {a0 : Nat} {p0 : Int64} {σ τ : tM} {v : Int32} (hm : m_X10_shuffle b0 fu a0 p0 σ = some (v, τ)) : tMt l D aC b0 yX10_shuffle (Cond.code yX10_shuffle cX10_shuffle 3 (some .int)) 1 25 [.ref (a0), .long (p0)] σ (.inl (some (.int v))) τ := by
  unfold m_X10_shuffle at hm
  obtain ⟨hg, hm⟩ := grw_e hm
  refine tMt_of (n := 0) rfl (Nat.le_of_ble_eq_true rfl) hg ?_
  intro p e s m below meth c C htab hin
  refine zx_lv [0, 1] [(0, .ref (a0)), (1, .long (p0))] rfl ?_
  refine zx_aload_n C dX10_shuffle_0 0 rfl ?_
  obtain ⟨k1, i2, hm⟩ := ckO_e hm
  obtain ⟨a3, h4, hm⟩ := osm_e hm
  refine zx_get (j := 0) C tC_10 k1 i2 ⟨by decide, Or.inl W_2_213⟩ dX10_shuffle_1 (.ref a3) (rf_s h4) ?_
  obtain ⟨k5, i6, hm⟩ := ckO_e hm
  refine zx_get (j := 14) C tC_0 k5 i6 ⟨by decide, Or.inr ⟨_, W_1_53⟩⟩ dX10_shuffle_4 (.int (tI (σ) (a3) 14)) rfl ?_
  refine zx_if_eq C 15 dX10_shuffle_7 (by decide) (fun c7 => ?_) (fun c7 => ?_)
  · replace hm := ip_e hm c7
    refine zx_aload_n C dX10_shuffle_15 0 rfl ?_
    obtain ⟨a8, h9, hm⟩ := osm_e hm
    refine zx_get (j := 0) C tC_10 k1 i2 ⟨by decide, Or.inl W_2_213⟩ dX10_shuffle_16 (.ref a8) (rf_s h9) ?_
    refine zx_lload_n C dX10_shuffle_19 1 rfl ?_
    obtain ⟨k10, i11, hm⟩ := ckO_e hm
    obtain ⟨v12, ρ13, h14, hm⟩ := cll_e hm
    refine zx_callV (σ := σ) C [.long (p0)] tC_0 k10 i11 Y_X0_chooseAll W_3_58 W_3_59 W_3_60 (c_X0_chooseAll h14) (by decide) (by decide) rfl (Nat.le_of_ble_eq_true rfl) dX10_shuffle_20 rfl ?_
    exact zx_lv [] [] rfl (j_X10_shuffle_23 C htab hin    hm)
  · replace hm := in_e hm c7
    refine zx_bipush (v := (-9)) C dX10_shuffle_10 (by decide) ?_
    refine zx_goto C 23 dX10_shuffle_12 (by decide) ?_
    exact zx_lv [] [] rfl (j_X10_shuffle_23 C htab hin    hm)
abbrev cX10_versions : ByteArray := prog_1_method_46_code
def yX10_versions : MethodName := ⟨"SyncTree", "versions", "(I)I"⟩
theorem Y_X10_versions : tY yX10_versions cX10_versions 3 (some .int) 1 := ⟨W_3_66, W_1_1, ⟨by decide +kernel, by decide +kernel⟩, by decide +kernel⟩
theorem dX10_versions_0 : decode cX10_versions 0 = .ok (.aload_n 0, 1) := by decide +kernel
theorem dX10_versions_1 : decode cX10_versions 1 = .ok (.getfield 12, 3) := by decide +kernel
theorem dX10_versions_4 : decode cX10_versions 4 = .ok (.iload_n 1, 1) := by decide +kernel
theorem dX10_versions_5 : decode cX10_versions 5 = .ok (.invokevirtual 356, 3) := by decide +kernel
theorem dX10_versions_8 : decode cX10_versions 8 = .ok (.istore_n 2, 1) := by decide +kernel
theorem dX10_versions_9 : decode cX10_versions 9 = .ok (.iload_n 2, 1) := by decide +kernel
theorem dX10_versions_10 : decode cX10_versions 10 = .ok (.ifCond .ge 8, 3) := by decide +kernel
theorem dX10_versions_13 : decode cX10_versions 13 = .ok (.bipush (-9), 2) := by decide +kernel
theorem dX10_versions_15 : decode cX10_versions 15 = .ok (.goto 4, 3) := by decide +kernel
theorem dX10_versions_18 : decode cX10_versions 18 = .ok (.iload_n 2, 1) := by decide +kernel
theorem dX10_versions_19 : decode cX10_versions 19 = .ok (.ireturn, 1) := by decide +kernel
def J_X10_versions_19 (b0 fu : Nat)  (s0 : Int32) (σ : tM) : Option ((Int32) × tM) := some (s0, σ)
def m_X10_versions (b0 fu : Nat) (a0 : Nat) (p0 : Int32) (σ : tM) : Option ((Int32) × tM) := grw σ (ckO b0 (σ) (a0) 10 (osm (tA (σ) (a0) 0) (fun a3 => ckO b0 (σ) (a3) 0 (cll (m_X0_countOf b0 fu (a3) (p0) (σ)) (fun v7 ρ8 => if (0) ≤ (v7) then J_X10_versions_19 b0 fu   (v7) (ρ8) else J_X10_versions_19 b0 fu   ((-9)) (ρ8))))))
set_option maxRecDepth 100000 in
set_option maxHeartbeats 1000000 in
theorem j_X10_versions_19 {p : Program} {l : Launch} {e : Env} {s : State} {m : MethodId} {args : Array Value} {below : List Frame} {meth : Method} {c : Code} {D : va_G} {aC : Nat → ClassId} {b0 fu : Nat} {σ0 τ : tM} {v : Int32}  (C : tCx p l s m args meth c yX10_versions.cls cX10_versions 3 (some .int) D aC b0 σ0) (htab : ∀ x ∈ c.exceptionTable.toList, False) (hin : meth.name = yX10_versions.name)  {s0 : Int32} {σ : tM} (hm : J_X10_versions_19 b0 fu  s0 σ = some (v, τ)) : tX p l e s m args below meth c 3 1 21 D aC b0 σ0 (.inl (some (.int v))) τ 19 [] [.int (s0)] σ := by
  unfold J_X10_versions_19 at hm
  obtain ⟨rfl, rfl⟩ := ret_e hm
  exact zx_iret C rfl rfl rfl dX10_versions_19
set_option maxRecDepth 100000 in
set_option maxHeartbeats 1000000 in
theorem c_X10_versions {l : Launch} {D : va_G} {aC : Nat → ClassId} {b0 fu : Nat} {a0 : Nat} {p0 : Int32} {σ τ : tM} {v : Int32} (hm : m_X10_versions b0 fu a0 p0 σ = some (v, τ)) : tMt l D aC b0 yX10_versions (Cond.code yX10_versions cX10_versions 3 (some .int)) 1 21 [.ref (a0), .int (p0)] σ (.inl (some (.int v))) τ := by
  unfold m_X10_versions at hm
  obtain ⟨hg, hm⟩ := grw_e hm
  refine tMt_of (n := 0) rfl (Nat.le_of_ble_eq_true rfl) hg ?_
  intro p e s m below meth c C htab hin
  refine zx_lv [0, 1] [(0, .ref (a0)), (1, .int (p0))] rfl ?_
  refine zx_aload_n C dX10_versions_0 0 rfl ?_
  obtain ⟨k1, i2, hm⟩ := ckO_e hm
  obtain ⟨a3, h4, hm⟩ := osm_e hm
  refine zx_get (j := 0) C tC_10 k1 i2 ⟨by decide, Or.inl W_2_213⟩ dX10_versions_1 (.ref a3) (rf_s h4) ?_
  refine zx_iload_n C dX10_versions_4 1 rfl ?_
  obtain ⟨k5, i6, hm⟩ := ckO_e hm
  obtain ⟨v7, ρ8, h9, hm⟩ := cll_e hm
  refine zx_callV (σ := σ) C [.int (p0)] tC_0 k5 i6 Y_X0_countOf W_3_46 W_3_47 W_3_48 (c_X0_countOf h9) (by decide) (by decide) rfl (Nat.le_of_ble_eq_true rfl) dX10_versions_5 rfl ?_
  refine zx_istore_n C [(2, .int (v7)), (0, .ref (a0)), (1, .int (p0))] dX10_versions_8 rfl (by decide) rfl ?_
  refine zx_iload_n C dX10_versions_9 0 rfl ?_
  refine zx_if_ge C 18 dX10_versions_10 (by decide) (fun c10 => ?_) (fun c10 => ?_)
  · replace hm := ip_e hm c10
    refine zx_iload_n C dX10_versions_18 0 rfl ?_
    exact zx_lv [] [] rfl (j_X10_versions_19 C htab hin    hm)
  · replace hm := in_e hm c10
    refine zx_bipush (v := (-9)) C dX10_versions_13 (by decide) ?_
    refine zx_goto C 19 dX10_versions_15 (by decide) ?_
    exact zx_lv [] [] rfl (j_X10_versions_19 C htab hin    hm)
