abbrev cX8_setText : ByteArray := prog_10_method_15_code
def yX8_setText : MethodName := ⟨"SyncTree$Tree", "setText", "(ILSyncTree$PathText;)V"⟩
theorem Y_X8_setText : tY yX8_setText cX8_setText 6 none 2 := ⟨W_4_178, W_1_4, ⟨by decide +kernel, by decide +kernel⟩, by decide +kernel⟩
theorem dX8_setText_0 : decode cX8_setText 0 = .ok (.aload_n 2, 1) := by decide +kernel
theorem dX8_setText_1 : decode cX8_setText 1 = .ok (.getfield 67, 3) := by decide +kernel
theorem dX8_setText_4 : decode cX8_setText 4 = .ok (.bipush 80, 2) := by decide +kernel
theorem dX8_setText_6 : decode cX8_setText 6 = .ok (.invokestatic 73, 3) := by decide +kernel
theorem dX8_setText_9 : decode cX8_setText 9 = .ok (.istore_n 3, 1) := by decide +kernel
theorem dX8_setText_10 : decode cX8_setText 10 = .ok (.iload_n 1, 1) := by decide +kernel
theorem dX8_setText_11 : decode cX8_setText 11 = .ok (.iconst 1, 1) := by decide +kernel
theorem dX8_setText_12 : decode cX8_setText 12 = .ok (.iand, 1) := by decide +kernel
theorem dX8_setText_13 : decode cX8_setText 13 = .ok (.bipush 16, 2) := by decide +kernel
theorem dX8_setText_15 : decode cX8_setText 15 = .ok (.imul, 1) := by decide +kernel
theorem dX8_setText_16 : decode cX8_setText 16 = .ok (.iconst 1, 1) := by decide +kernel
theorem dX8_setText_17 : decode cX8_setText 17 = .ok (.iadd, 1) := by decide +kernel
theorem dX8_setText_18 : decode cX8_setText 18 = .ok (.bipush 8, 2) := by decide +kernel
theorem dX8_setText_20 : decode cX8_setText 20 = .ok (.imul, 1) := by decide +kernel
theorem dX8_setText_21 : decode cX8_setText 21 = .ok (.istore 4, 2) := by decide +kernel
theorem dX8_setText_23 : decode cX8_setText 23 = .ok (.iconst 0, 1) := by decide +kernel
theorem dX8_setText_24 : decode cX8_setText 24 = .ok (.istore 5, 2) := by decide +kernel
theorem dX8_setText_26 : decode cX8_setText 26 = .ok (.iload 5, 2) := by decide +kernel
theorem dX8_setText_28 : decode cX8_setText 28 = .ok (.iload_n 3, 1) := by decide +kernel
theorem dX8_setText_29 : decode cX8_setText 29 = .ok (.if_icmp .ge 33, 3) := by decide +kernel
theorem dX8_setText_32 : decode cX8_setText 32 = .ok (.aload_n 0, 1) := by decide +kernel
theorem dX8_setText_33 : decode cX8_setText 33 = .ok (.getfield 15, 3) := by decide +kernel
theorem dX8_setText_36 : decode cX8_setText 36 = .ok (.iconst 2, 1) := by decide +kernel
theorem dX8_setText_37 : decode cX8_setText 37 = .ok (.iload_n 1, 1) := by decide +kernel
theorem dX8_setText_38 : decode cX8_setText 38 = .ok (.iconst 2, 1) := by decide +kernel
theorem dX8_setText_39 : decode cX8_setText 39 = .ok (.idiv, 1) := by decide +kernel
theorem dX8_setText_40 : decode cX8_setText 40 = .ok (.iadd, 1) := by decide +kernel
theorem dX8_setText_41 : decode cX8_setText 41 = .ok (.iload 4, 2) := by decide +kernel
theorem dX8_setText_43 : decode cX8_setText 43 = .ok (.iload 5, 2) := by decide +kernel
theorem dX8_setText_45 : decode cX8_setText 45 = .ok (.iadd, 1) := by decide +kernel
theorem dX8_setText_46 : decode cX8_setText 46 = .ok (.aload_n 2, 1) := by decide +kernel
theorem dX8_setText_47 : decode cX8_setText 47 = .ok (.getfield 76, 3) := by decide +kernel
theorem dX8_setText_50 : decode cX8_setText 50 = .ok (.iload 5, 2) := by decide +kernel
theorem dX8_setText_52 : decode cX8_setText 52 = .ok (.baload, 1) := by decide +kernel
theorem dX8_setText_53 : decode cX8_setText 53 = .ok (.invokevirtual 79, 3) := by decide +kernel
theorem dX8_setText_56 : decode cX8_setText 56 = .ok (.iinc 5 1, 3) := by decide +kernel
theorem dX8_setText_59 : decode cX8_setText 59 = .ok (.goto (-33), 3) := by decide +kernel
theorem dX8_setText_62 : decode cX8_setText 62 = .ok (.aload_n 0, 1) := by decide +kernel
theorem dX8_setText_63 : decode cX8_setText 63 = .ok (.iload_n 1, 1) := by decide +kernel
theorem dX8_setText_64 : decode cX8_setText 64 = .ok (.iload_n 3, 1) := by decide +kernel
theorem dX8_setText_65 : decode cX8_setText 65 = .ok (.invokevirtual 83, 3) := by decide +kernel
theorem dX8_setText_68 : decode cX8_setText 68 = .ok (.return_, 1) := by decide +kernel
def L_X8_setText_26 (b0 fu : Nat)  : Nat → Nat → Int32 → Nat → Int32 → Int32 → Int32 → tM → Option ((Unit) × tM)
  | 0, _, _, _, _, _, _, _ => none
  | n + 1, x0, x1, x2, x3, x4, x5, σ => ltb (L_X8_setText_26 b0 fu  n) (fun rc26 => if (x3) ≤ (x5) then ckO b0 (σ) (x0) 8 (cll (m_X8_setSize b0 fu (x0) (x1) (x3) (σ)) (fun v8 ρ9 => some ((), ρ9))) else ckO b0 (σ) (x0) 8 (osm (tA (σ) (x0) 0) (fun a13 => ckO b0 (σ) (x2) 3 (osm (tA (σ) (x2) 0) (fun a17 => ckR b0 (σ) (a17) 1 (fun n21 => ckI (x5) (n21) (ckO b0 (σ) (a13) 5 (cll (m_X5_setOctet b0 fu (a13) ((2) + ((x1) / (2))) ((x4) + (x5)) (tI (σ) (a17) ((x5).toNatClampNeg)) (σ)) (fun v25 ρ26 => ltb ((x5) + Int32.ofInt 1) (fun y28 => rc26 (x0) (x1) (x2) (x3) (x4) (y28) (ρ26)))))))))))
def m_X8_setText (b0 fu : Nat) (a0 : Nat) (p0 : Int32) (p1 : Nat) (σ : tM) : Option ((Unit) × tM) := grw σ (ckO b0 (σ) (p1) 3 (ltb (((if ((80 : Int32)) < (tI (σ) (p1) 1) then (80) else (tI (σ) (p1) 1) : Int32) : Int32)) (fun y3 => ltb ((((((p0) &&& (1)) * (16)) + (1)) * (8) : Int32)) (fun y4 => L_X8_setText_26 b0 fu  (fu) (a0) (p0) (p1) (y3) (y4) (0) (σ)))))
set_option maxRecDepth 100000 in
set_option maxHeartbeats 1000000 in
theorem l_X8_setText_26 {p : Program} {l : Launch} {e : Env} {s : State} {m : MethodId} {args : Array Value} {below : List Frame} {meth : Method} {c : Code} {D : va_G} {aC : Nat → ClassId} {b0 fu : Nat} {σ0 τ : tM} {v : Unit}  (C : tCx p s m args meth c yX8_setText.cls cX8_setText 6 none D aC b0 σ0) (htab : ∀ x ∈ c.exceptionTable.toList, False) (hin : meth.name = yX8_setText.name)  : ∀ (n : Nat) (x0 : Nat) (x1 : Int32) (x2 : Nat) (x3 : Int32) (x4 : Int32) (x5 : Int32) (σ : tM), L_X8_setText_26 b0 fu  n x0 x1 x2 x3 x4 x5 σ = some (v, τ) → tX p l e s m args below meth c 6 4 92 D aC b0 σ0 (.inl none) τ 26 [(0, .ref (x0)), (1, .int (x1)), (2, .ref (x2)), (3, .int (x3)), (4, .int (x4)), (5, .int (x5))] [] σ := by
  intro n
  induction n with
  | zero => intro x0 x1 x2 x3 x4 x5 σ hm; unfold L_X8_setText_26 at hm; cases hm
  | succ n ih =>
    intro x0 x1 x2 x3 x4 x5 σ hm
    unfold L_X8_setText_26 at hm
    obtain ⟨rc26, hrc⟩ : ∃ z, z = L_X8_setText_26 b0 fu  n := ⟨_, rfl⟩
    replace hm := ltb_e hm hrc
    rw [← hrc] at ih
    have hrc26 := ih
    clear ih hrc
    refine zx_iload C dX8_setText_26 5 rfl ?_
    refine zx_iload_n C dX8_setText_28 3 rfl ?_
    refine zx_icmp_ge C 62 dX8_setText_29 (by decide) (fun c5 => ?_) (fun c5 => ?_)
    · replace hm := ip_e hm c5
      refine zx_aload_n C dX8_setText_62 0 rfl ?_
      refine zx_iload_n C dX8_setText_63 1 rfl ?_
      refine zx_iload_n C dX8_setText_64 3 rfl ?_
      obtain ⟨k6, i7, hm⟩ := ckO_e hm
      obtain ⟨v8, ρ9, h10, hm⟩ := cll_e hm
      refine zx_callV (σ := σ) C [.int (x1), .int (x3)] tC_8 k6 i7 Y_X8_setSize W_4_186 W_4_188 Wp_29 (c_X8_setSize h10) (by decide) (by decide) rfl (Nat.le_of_ble_eq_true rfl) dX8_setText_65 rfl ?_
      obtain ⟨rfl, rfl⟩ := ret_e hm
      exact zx_vret C rfl rfl rfl dX8_setText_68
    · replace hm := in_e hm c5
      refine zx_aload_n C dX8_setText_32 0 rfl ?_
      obtain ⟨k11, i12, hm⟩ := ckO_e hm
      obtain ⟨a13, h14, hm⟩ := osm_e hm
      refine zx_get (j := 0) C tC_8 k11 i12 ⟨by decide, Or.inl W_1_163⟩ dX8_setText_33 (.ref a13) (rf_s h14) ?_
      refine zx_iconst (v := 2) C dX8_setText_36 (by decide) ?_
      refine zx_iload_n C dX8_setText_37 1 rfl ?_
      refine zx_iconst (v := 2) C dX8_setText_38 (by decide) ?_
      refine zx_idiv C dX8_setText_39 (by decide) ?_
      refine zx_iadd C dX8_setText_40 ?_
      refine zx_iload C dX8_setText_41 4 rfl ?_
      refine zx_iload C dX8_setText_43 5 rfl ?_
      refine zx_iadd C dX8_setText_45 ?_
      refine zx_aload_n C dX8_setText_46 2 rfl ?_
      obtain ⟨k15, i16, hm⟩ := ckO_e hm
      obtain ⟨a17, h18, hm⟩ := osm_e hm
      refine zx_get (j := 0) C tC_3 k15 i16 ⟨by decide, Or.inr ⟨_, W_2_58⟩⟩ dX8_setText_47 (.ref a17) (rf_s h18) ?_
      refine zx_iload C dX8_setText_50 5 rfl ?_
      obtain ⟨n21, k19, i20, hm⟩ := ckR_e hm
      obtain ⟨h22, hm⟩ := ckI_e hm
      refine zx_bald C k19 i20 h22 dX8_setText_52 ?_
      obtain ⟨k23, i24, hm⟩ := ckO_e hm
      obtain ⟨v25, ρ26, h27, hm⟩ := cll_e hm
      refine zx_callV (σ := σ) C [.int ((2) + ((x1) / (2))), .int ((x4) + (x5)), .int (tI (σ) (a17) ((x5).toNatClampNeg))] tC_5 k23 i24 Y_X5_setOctet W_4_180 W_4_181 W_4_182 (c_X5_setOctet h27) (by decide) (by decide) rfl (Nat.le_of_ble_eq_true rfl) dX8_setText_53 rfl ?_
      obtain ⟨y28, hy28⟩ : ∃ z : Int32, z = (x5) + Int32.ofInt 1 := ⟨_, rfl⟩
      replace hm := ltb_e hm hy28
      refine zx_iinc C [(5, .int (y28)), (0, .ref (x0)), (1, .int (x1)), (2, .ref (x2)), (3, .int (x3)), (4, .int (x4))] dX8_setText_56 5 rfl hy28.symm (by decide) rfl ?_
      refine zx_goto C 26 dX8_setText_59 (by decide) ?_
      exact zx_lv [1, 2, 3, 4, 5, 0] [(0, .ref (x0)), (1, .int (x1)), (2, .ref (x2)), (3, .int (x3)), (4, .int (x4)), (5, .int (y28))] rfl (hrc26 _ _ _ _ _ _ _ hm)
set_option maxRecDepth 100000 in
set_option maxHeartbeats 1000000 in
theorem c_X8_setText {l : Launch} {D : va_G} {aC : Nat → ClassId} {b0 fu : Nat} {a0 : Nat} {p0 : Int32} {p1 : Nat} {σ τ : tM} {v : Unit} (hm : m_X8_setText b0 fu a0 p0 p1 σ = some (v, τ)) : tMt l D aC b0 yX8_setText (Cond.code yX8_setText cX8_setText 6 none) 4 92 [.ref (a0), .int (p0), .ref (p1)] σ (.inl none) τ := by
  unfold m_X8_setText at hm
  obtain ⟨hg, hm⟩ := grw_e hm
  refine tMt_of (n := 0) rfl (Nat.le_of_ble_eq_true rfl) hg ?_
  intro p e s m below meth c C htab hin
  refine zx_lv [0, 1, 2] [(0, .ref (a0)), (1, .int (p0)), (2, .ref (p1))] rfl ?_
  refine zx_aload_n C dX8_setText_0 2 rfl ?_
  obtain ⟨k1, i2, hm⟩ := ckO_e hm
  refine zx_get (j := 1) C tC_3 k1 i2 ⟨by decide, Or.inr ⟨_, W_2_62⟩⟩ dX8_setText_1 (.int (tI (σ) (p1) 1)) rfl ?_
  refine zx_bipush (v := 80) C dX8_setText_4 (by decide) ?_
  refine zx_min C W_4_179 W_2_106 W_1_10 W_2_107 (by decide) (by decide) (Nat.le_of_ble_eq_true rfl) dX8_setText_6 ?_
  refine zx_topi (fun y3 hy3 => ?_)
  replace hm := ltb_e hm hy3
  refine zx_istore_n C [(3, .int (y3)), (0, .ref (a0)), (1, .int (p0)), (2, .ref (p1))] dX8_setText_9 rfl (by decide) rfl ?_
  refine zx_iload_n C dX8_setText_10 2 rfl ?_
  refine zx_iconst (v := 1) C dX8_setText_11 (by decide) ?_
  refine zx_iand C dX8_setText_12 ?_
  refine zx_bipush (v := 16) C dX8_setText_13 (by decide) ?_
  refine zx_imul C dX8_setText_15 ?_
  refine zx_iconst (v := 1) C dX8_setText_16 (by decide) ?_
  refine zx_iadd C dX8_setText_17 ?_
  refine zx_bipush (v := 8) C dX8_setText_18 (by decide) ?_
  refine zx_imul C dX8_setText_20 ?_
  refine zx_topi (fun y4 hy4 => ?_)
  replace hm := ltb_e hm hy4
  refine zx_istore C [(4, .int (y4)), (3, .int (y3)), (0, .ref (a0)), (1, .int (p0)), (2, .ref (p1))] dX8_setText_21 (by decide) rfl ?_
  refine zx_iconst (v := 0) C dX8_setText_23 (by decide) ?_
  refine zx_istore C [(5, .int (0)), (4, .int (y4)), (3, .int (y3)), (0, .ref (a0)), (1, .int (p0)), (2, .ref (p1))] dX8_setText_24 (by decide) rfl ?_
  exact zx_lv [3, 4, 5, 2, 1, 0] [(0, .ref (a0)), (1, .int (p0)), (2, .ref (p1)), (3, .int (y3)), (4, .int (y4)), (5, .int (0))] rfl (l_X8_setText_26 C htab hin  _ _ _ _ _ _ _ _ hm)
abbrev cX8_textOctet : ByteArray := prog_10_method_16_code
def yX8_textOctet : MethodName := ⟨"SyncTree$Tree", "textOctet", "(II)I"⟩
theorem Y_X8_textOctet : tY yX8_textOctet cX8_textOctet 3 (some .int) 2 := ⟨W_4_139, W_1_4, ⟨by decide +kernel, by decide +kernel⟩, by decide +kernel⟩
theorem dX8_textOctet_0 : decode cX8_textOctet 0 = .ok (.aload_n 0, 1) := by decide +kernel
theorem dX8_textOctet_1 : decode cX8_textOctet 1 = .ok (.getfield 15, 3) := by decide +kernel
theorem dX8_textOctet_4 : decode cX8_textOctet 4 = .ok (.iconst 2, 1) := by decide +kernel
theorem dX8_textOctet_5 : decode cX8_textOctet 5 = .ok (.iload_n 1, 1) := by decide +kernel
theorem dX8_textOctet_6 : decode cX8_textOctet 6 = .ok (.iconst 2, 1) := by decide +kernel
theorem dX8_textOctet_7 : decode cX8_textOctet 7 = .ok (.idiv, 1) := by decide +kernel
theorem dX8_textOctet_8 : decode cX8_textOctet 8 = .ok (.iadd, 1) := by decide +kernel
theorem dX8_textOctet_9 : decode cX8_textOctet 9 = .ok (.iload_n 1, 1) := by decide +kernel
theorem dX8_textOctet_10 : decode cX8_textOctet 10 = .ok (.iconst 1, 1) := by decide +kernel
theorem dX8_textOctet_11 : decode cX8_textOctet 11 = .ok (.iand, 1) := by decide +kernel
theorem dX8_textOctet_12 : decode cX8_textOctet 12 = .ok (.bipush 16, 2) := by decide +kernel
theorem dX8_textOctet_14 : decode cX8_textOctet 14 = .ok (.imul, 1) := by decide +kernel
theorem dX8_textOctet_15 : decode cX8_textOctet 15 = .ok (.iconst 1, 1) := by decide +kernel
theorem dX8_textOctet_16 : decode cX8_textOctet 16 = .ok (.iadd, 1) := by decide +kernel
theorem dX8_textOctet_17 : decode cX8_textOctet 17 = .ok (.bipush 8, 2) := by decide +kernel
theorem dX8_textOctet_19 : decode cX8_textOctet 19 = .ok (.imul, 1) := by decide +kernel
theorem dX8_textOctet_20 : decode cX8_textOctet 20 = .ok (.iload_n 2, 1) := by decide +kernel
theorem dX8_textOctet_21 : decode cX8_textOctet 21 = .ok (.iadd, 1) := by decide +kernel
theorem dX8_textOctet_22 : decode cX8_textOctet 22 = .ok (.invokevirtual 86, 3) := by decide +kernel
theorem dX8_textOctet_25 : decode cX8_textOctet 25 = .ok (.ireturn, 1) := by decide +kernel
def m_X8_textOctet (b0 fu : Nat) (a0 : Nat) (p0 : Int32) (p1 : Int32) (σ : tM) : Option ((Int32) × tM) := grw σ (ckO b0 (σ) (a0) 8 (osm (tA (σ) (a0) 0) (fun a3 => ckO b0 (σ) (a3) 5 (cll (m_X5_octet b0 fu (a3) ((2) + ((p0) / (2))) ((((((p0) &&& (1)) * (16)) + (1)) * (8)) + (p1)) (σ)) (fun v7 ρ8 => some (v7, ρ8))))))
set_option maxRecDepth 100000 in
set_option maxHeartbeats 1000000 in
theorem c_X8_textOctet {l : Launch} {D : va_G} {aC : Nat → ClassId} {b0 fu : Nat} {a0 : Nat} {p0 : Int32} {p1 : Int32} {σ τ : tM} {v : Int32} (hm : m_X8_textOctet b0 fu a0 p0 p1 σ = some (v, τ)) : tMt l D aC b0 yX8_textOctet (Cond.code yX8_textOctet cX8_textOctet 3 (some .int)) 1 22 [.ref (a0), .int (p0), .int (p1)] σ (.inl (some (.int v))) τ := by
  unfold m_X8_textOctet at hm
  obtain ⟨hg, hm⟩ := grw_e hm
  refine tMt_of (n := 0) rfl (Nat.le_of_ble_eq_true rfl) hg ?_
  intro p e s m below meth c C htab hin
  refine zx_lv [0, 1, 2] [(0, .ref (a0)), (1, .int (p0)), (2, .int (p1))] rfl ?_
  refine zx_aload_n C dX8_textOctet_0 0 rfl ?_
  obtain ⟨k1, i2, hm⟩ := ckO_e hm
  obtain ⟨a3, h4, hm⟩ := osm_e hm
  refine zx_get (j := 0) C tC_8 k1 i2 ⟨by decide, Or.inl W_1_163⟩ dX8_textOctet_1 (.ref a3) (rf_s h4) ?_
  refine zx_iconst (v := 2) C dX8_textOctet_4 (by decide) ?_
  refine zx_iload_n C dX8_textOctet_5 1 rfl ?_
  refine zx_iconst (v := 2) C dX8_textOctet_6 (by decide) ?_
  refine zx_idiv C dX8_textOctet_7 (by decide) ?_
  refine zx_iadd C dX8_textOctet_8 ?_
  refine zx_iload_n C dX8_textOctet_9 1 rfl ?_
  refine zx_iconst (v := 1) C dX8_textOctet_10 (by decide) ?_
  refine zx_iand C dX8_textOctet_11 ?_
  refine zx_bipush (v := 16) C dX8_textOctet_12 (by decide) ?_
  refine zx_imul C dX8_textOctet_14 ?_
  refine zx_iconst (v := 1) C dX8_textOctet_15 (by decide) ?_
  refine zx_iadd C dX8_textOctet_16 ?_
  refine zx_bipush (v := 8) C dX8_textOctet_17 (by decide) ?_
  refine zx_imul C dX8_textOctet_19 ?_
  refine zx_iload_n C dX8_textOctet_20 2 rfl ?_
  refine zx_iadd C dX8_textOctet_21 ?_
  obtain ⟨k5, i6, hm⟩ := ckO_e hm
  obtain ⟨v7, ρ8, h9, hm⟩ := cll_e hm
  refine zx_callV (σ := σ) C [.int ((2) + ((p0) / (2))), .int ((((((p0) &&& (1)) * (16)) + (1)) * (8)) + (p1))] tC_5 k5 i6 Y_X5_octet W_4_120 W_4_121 W_4_122 (c_X5_octet h9) (by decide) (by decide) rfl (Nat.le_of_ble_eq_true rfl) dX8_textOctet_22 rfl ?_
  obtain ⟨rfl, rfl⟩ := ret_e hm
  exact zx_iret C rfl rfl rfl dX8_textOctet_25
abbrev cX8_lowestUnused : ByteArray := prog_10_method_17_code
def yX8_lowestUnused : MethodName := ⟨"SyncTree$Tree", "lowestUnused", "()I"⟩
theorem Y_X8_lowestUnused : tY yX8_lowestUnused cX8_lowestUnused 2 (some .int) 0 := ⟨W_4_157, W_1_4, ⟨by decide +kernel, by decide +kernel⟩, by decide +kernel⟩
theorem dX8_lowestUnused_0 : decode cX8_lowestUnused 0 = .ok (.iconst 0, 1) := by decide +kernel
theorem dX8_lowestUnused_1 : decode cX8_lowestUnused 1 = .ok (.istore_n 1, 1) := by decide +kernel
theorem dX8_lowestUnused_2 : decode cX8_lowestUnused 2 = .ok (.iload_n 1, 1) := by decide +kernel
theorem dX8_lowestUnused_3 : decode cX8_lowestUnused 3 = .ok (.bipush 64, 2) := by decide +kernel
theorem dX8_lowestUnused_5 : decode cX8_lowestUnused 5 = .ok (.if_icmp .ge 19, 3) := by decide +kernel
theorem dX8_lowestUnused_8 : decode cX8_lowestUnused 8 = .ok (.aload_n 0, 1) := by decide +kernel
theorem dX8_lowestUnused_9 : decode cX8_lowestUnused 9 = .ok (.iload_n 1, 1) := by decide +kernel
theorem dX8_lowestUnused_10 : decode cX8_lowestUnused 10 = .ok (.invokevirtual 40, 3) := by decide +kernel
theorem dX8_lowestUnused_13 : decode cX8_lowestUnused 13 = .ok (.ifCond .ne 5, 3) := by decide +kernel
theorem dX8_lowestUnused_16 : decode cX8_lowestUnused 16 = .ok (.iload_n 1, 1) := by decide +kernel
theorem dX8_lowestUnused_17 : decode cX8_lowestUnused 17 = .ok (.ireturn, 1) := by decide +kernel
theorem dX8_lowestUnused_18 : decode cX8_lowestUnused 18 = .ok (.iinc 1 1, 3) := by decide +kernel
theorem dX8_lowestUnused_21 : decode cX8_lowestUnused 21 = .ok (.goto (-19), 3) := by decide +kernel
theorem dX8_lowestUnused_24 : decode cX8_lowestUnused 24 = .ok (.iconst (-1), 1) := by decide +kernel
theorem dX8_lowestUnused_25 : decode cX8_lowestUnused 25 = .ok (.ireturn, 1) := by decide +kernel
def L_X8_lowestUnused_2 (b0 fu : Nat)  : Nat → Nat → Int32 → tM → Option ((Int32) × tM)
  | 0, _, _, _ => none
  | n + 1, x0, x1, σ => ltb (L_X8_lowestUnused_2 b0 fu  n) (fun rc2 => if (64) ≤ (x1) then some ((-1), σ) else ckO b0 (σ) (x0) 8 (cll (m_X8_kind b0 fu (x0) (x1) (σ)) (fun v4 ρ5 => if (v4) = (0) then some (x1, ρ5) else ltb ((x1) + Int32.ofInt 1) (fun y8 => rc2 (x0) (y8) (ρ5)))))
def m_X8_lowestUnused (b0 fu : Nat) (a0 : Nat) (σ : tM) : Option ((Int32) × tM) := grw σ (L_X8_lowestUnused_2 b0 fu  (fu) (a0) (0) (σ))
set_option maxRecDepth 100000 in
set_option maxHeartbeats 1000000 in
theorem l_X8_lowestUnused_2 {p : Program} {l : Launch} {e : Env} {s : State} {m : MethodId} {args : Array Value} {below : List Frame} {meth : Method} {c : Code} {D : va_G} {aC : Nat → ClassId} {b0 fu : Nat} {σ0 τ : tM} {v : Int32}  (C : tCx p s m args meth c yX8_lowestUnused.cls cX8_lowestUnused 2 (some .int) D aC b0 σ0) (htab : ∀ x ∈ c.exceptionTable.toList, False) (hin : meth.name = yX8_lowestUnused.name)  : ∀ (n : Nat) (x0 : Nat) (x1 : Int32) (σ : tM), L_X8_lowestUnused_2 b0 fu  n x0 x1 σ = some (v, τ) → tX p l e s m args below meth c 2 2 43 D aC b0 σ0 (.inl (some (.int v))) τ 2 [(0, .ref (x0)), (1, .int (x1))] [] σ := by
  intro n
  induction n with
  | zero => intro x0 x1 σ hm; unfold L_X8_lowestUnused_2 at hm; cases hm
  | succ n ih =>
    intro x0 x1 σ hm
    unfold L_X8_lowestUnused_2 at hm
    obtain ⟨rc2, hrc⟩ : ∃ z, z = L_X8_lowestUnused_2 b0 fu  n := ⟨_, rfl⟩
    replace hm := ltb_e hm hrc
    rw [← hrc] at ih
    have hrc2 := ih
    clear ih hrc
    refine zx_iload_n C dX8_lowestUnused_2 1 rfl ?_
    refine zx_bipush (v := 64) C dX8_lowestUnused_3 (by decide) ?_
    refine zx_icmp_ge C 24 dX8_lowestUnused_5 (by decide) (fun c1 => ?_) (fun c1 => ?_)
    · replace hm := ip_e hm c1
      refine zx_iconst (v := (-1)) C dX8_lowestUnused_24 (by decide) ?_
      obtain ⟨rfl, rfl⟩ := ret_e hm
      exact zx_iret C rfl rfl rfl dX8_lowestUnused_25
    · replace hm := in_e hm c1
      refine zx_aload_n C dX8_lowestUnused_8 0 rfl ?_
      refine zx_iload_n C dX8_lowestUnused_9 1 rfl ?_
      obtain ⟨k2, i3, hm⟩ := ckO_e hm
      obtain ⟨v4, ρ5, h6, hm⟩ := cll_e hm
      refine zx_callV (σ := σ) C [.int (x1)] tC_8 k2 i3 Y_X8_kind W_3_79 W_3_80 W_3_81 (c_X8_kind h6) (by decide) (by decide) rfl (Nat.le_of_ble_eq_true rfl) dX8_lowestUnused_10 rfl ?_
      refine zx_if_ne C 18 dX8_lowestUnused_13 (by decide) (fun c7 => ?_) (fun c7 => ?_)
      · replace hm := in_e hm c7
        obtain ⟨y8, hy8⟩ : ∃ z : Int32, z = (x1) + Int32.ofInt 1 := ⟨_, rfl⟩
        replace hm := ltb_e hm hy8
        refine zx_iinc C [(1, .int (y8)), (0, .ref (x0))] dX8_lowestUnused_18 1 rfl hy8.symm (by decide) rfl ?_
        refine zx_goto C 2 dX8_lowestUnused_21 (by decide) ?_
        exact zx_lv [1, 0] [(0, .ref (x0)), (1, .int (y8))] rfl (hrc2 _ _ _ hm)
      · replace hm := ip_e hm c7
        refine zx_iload_n C dX8_lowestUnused_16 1 rfl ?_
        obtain ⟨rfl, rfl⟩ := ret_e hm
        exact zx_iret C rfl rfl rfl dX8_lowestUnused_17
set_option maxRecDepth 100000 in
set_option maxHeartbeats 1000000 in
theorem c_X8_lowestUnused {l : Launch} {D : va_G} {aC : Nat → ClassId} {b0 fu : Nat} {a0 : Nat} {σ τ : tM} {v : Int32} (hm : m_X8_lowestUnused b0 fu a0 σ = some (v, τ)) : tMt l D aC b0 yX8_lowestUnused (Cond.code yX8_lowestUnused cX8_lowestUnused 2 (some .int)) 2 43 [.ref (a0)] σ (.inl (some (.int v))) τ := by
  unfold m_X8_lowestUnused at hm
  obtain ⟨hg, hm⟩ := grw_e hm
  refine tMt_of (n := 0) rfl (Nat.le_of_ble_eq_true rfl) hg ?_
  intro p e s m below meth c C htab hin
  refine zx_lv [0] [(0, .ref (a0))] rfl ?_
  refine zx_iconst (v := 0) C dX8_lowestUnused_0 (by decide) ?_
  refine zx_istore_n C [(1, .int (0)), (0, .ref (a0))] dX8_lowestUnused_1 rfl (by decide) rfl ?_
  exact zx_lv [1, 0] [(0, .ref (a0)), (1, .int (0))] rfl (l_X8_lowestUnused_2 C htab hin  _ _ _ _ hm)
abbrev cX8_countUnused : ByteArray := prog_10_method_18_code
def yX8_countUnused : MethodName := ⟨"SyncTree$Tree", "countUnused", "()I"⟩
theorem Y_X8_countUnused : tY yX8_countUnused cX8_countUnused 3 (some .int) 0 := ⟨W_3_78, W_1_4, ⟨by decide +kernel, by decide +kernel⟩, by decide +kernel⟩
theorem dX8_countUnused_0 : decode cX8_countUnused 0 = .ok (.iconst 0, 1) := by decide +kernel
theorem dX8_countUnused_1 : decode cX8_countUnused 1 = .ok (.istore_n 1, 1) := by decide +kernel
theorem dX8_countUnused_2 : decode cX8_countUnused 2 = .ok (.iconst 0, 1) := by decide +kernel
theorem dX8_countUnused_3 : decode cX8_countUnused 3 = .ok (.istore_n 2, 1) := by decide +kernel
theorem dX8_countUnused_4 : decode cX8_countUnused 4 = .ok (.iload_n 2, 1) := by decide +kernel
theorem dX8_countUnused_5 : decode cX8_countUnused 5 = .ok (.bipush 64, 2) := by decide +kernel
theorem dX8_countUnused_7 : decode cX8_countUnused 7 = .ok (.if_icmp .ge 25, 3) := by decide +kernel
theorem dX8_countUnused_10 : decode cX8_countUnused 10 = .ok (.iload_n 1, 1) := by decide +kernel
theorem dX8_countUnused_11 : decode cX8_countUnused 11 = .ok (.aload_n 0, 1) := by decide +kernel
theorem dX8_countUnused_12 : decode cX8_countUnused 12 = .ok (.iload_n 2, 1) := by decide +kernel
theorem dX8_countUnused_13 : decode cX8_countUnused 13 = .ok (.invokevirtual 40, 3) := by decide +kernel
theorem dX8_countUnused_16 : decode cX8_countUnused 16 = .ok (.ifCond .ne 7, 3) := by decide +kernel
theorem dX8_countUnused_19 : decode cX8_countUnused 19 = .ok (.iconst 1, 1) := by decide +kernel
theorem dX8_countUnused_20 : decode cX8_countUnused 20 = .ok (.goto 4, 3) := by decide +kernel
theorem dX8_countUnused_23 : decode cX8_countUnused 23 = .ok (.iconst 0, 1) := by decide +kernel
theorem dX8_countUnused_24 : decode cX8_countUnused 24 = .ok (.iadd, 1) := by decide +kernel
theorem dX8_countUnused_25 : decode cX8_countUnused 25 = .ok (.istore_n 1, 1) := by decide +kernel
theorem dX8_countUnused_26 : decode cX8_countUnused 26 = .ok (.iinc 2 1, 3) := by decide +kernel
theorem dX8_countUnused_29 : decode cX8_countUnused 29 = .ok (.goto (-25), 3) := by decide +kernel
theorem dX8_countUnused_32 : decode cX8_countUnused 32 = .ok (.iload_n 1, 1) := by decide +kernel
theorem dX8_countUnused_33 : decode cX8_countUnused 33 = .ok (.ireturn, 1) := by decide +kernel
def J_X8_countUnused_24 (b0 fu : Nat) (rc4 : Nat → Int32 → Int32 → tM → Option ((Int32) × tM)) (x0 : Nat) (x2 : Int32) (s0 : Int32) (s1 : Int32) (σ : tM) : Option ((Int32) × tM) := ltb (((s0) + (s1) : Int32)) (fun y8 => ltb ((x2) + Int32.ofInt 1) (fun y9 => rc4 (x0) (y8) (y9) (σ)))
def L_X8_countUnused_4 (b0 fu : Nat)  : Nat → Nat → Int32 → Int32 → tM → Option ((Int32) × tM)
  | 0, _, _, _, _ => none
  | n + 1, x0, x1, x2, σ => ltb (L_X8_countUnused_4 b0 fu  n) (fun rc4 => if (64) ≤ (x2) then some (x1, σ) else ckO b0 (σ) (x0) 8 (cll (m_X8_kind b0 fu (x0) (x2) (σ)) (fun v4 ρ5 => if (v4) = (0) then J_X8_countUnused_24 b0 fu rc4  (x0) (x2) (x1) (1) (ρ5) else J_X8_countUnused_24 b0 fu rc4  (x0) (x2) (x1) (0) (ρ5))))
def m_X8_countUnused (b0 fu : Nat) (a0 : Nat) (σ : tM) : Option ((Int32) × tM) := grw σ (L_X8_countUnused_4 b0 fu  (fu) (a0) (0) (0) (σ))
set_option maxRecDepth 100000 in
set_option maxHeartbeats 1000000 in
theorem j_X8_countUnused_24 {p : Program} {l : Launch} {e : Env} {s : State} {m : MethodId} {args : Array Value} {below : List Frame} {meth : Method} {c : Code} {D : va_G} {aC : Nat → ClassId} {b0 fu : Nat} {σ0 τ : tM} {v : Int32} {rc4 : Nat → Int32 → Int32 → tM → Option ((Int32) × tM)} (C : tCx p s m args meth c yX8_countUnused.cls cX8_countUnused 3 (some .int) D aC b0 σ0) (htab : ∀ x ∈ c.exceptionTable.toList, False) (hin : meth.name = yX8_countUnused.name) (hrc4 : ∀ (x0 : Nat) (x1 : Int32) (x2 : Int32) (ρ : tM), rc4 x0 x1 x2 ρ = some (v, τ) → tX p l e s m args below meth c 3 2 43 D aC b0 σ0 (.inl (some (.int v))) τ 4 [(0, .ref (x0)), (1, .int (x1)), (2, .int (x2))] [] ρ) {x0 : Nat} {x2 : Int32} {s0 : Int32} {s1 : Int32} {σ : tM} (hm : J_X8_countUnused_24 b0 fu rc4 x0 x2 s0 s1 σ = some (v, τ)) : tX p l e s m args below meth c 3 2 43 D aC b0 σ0 (.inl (some (.int v))) τ 24 [(0, .ref (x0)), (2, .int (x2))] [.int (s1), .int (s0)] σ := by
  unfold J_X8_countUnused_24 at hm
  refine zx_iadd C dX8_countUnused_24 ?_
  refine zx_topi (fun y8 hy8 => ?_)
  replace hm := ltb_e hm hy8
  refine zx_istore_n C [(1, .int (y8)), (0, .ref (x0)), (2, .int (x2))] dX8_countUnused_25 rfl (by decide) rfl ?_
  obtain ⟨y9, hy9⟩ : ∃ z : Int32, z = (x2) + Int32.ofInt 1 := ⟨_, rfl⟩
  replace hm := ltb_e hm hy9
  refine zx_iinc C [(2, .int (y9)), (1, .int (y8)), (0, .ref (x0))] dX8_countUnused_26 2 rfl hy9.symm (by decide) rfl ?_
  refine zx_goto C 4 dX8_countUnused_29 (by decide) ?_
  exact zx_lv [2, 1, 0] [(0, .ref (x0)), (1, .int (y8)), (2, .int (y9))] rfl (hrc4 _ _ _ _ hm)
set_option maxRecDepth 100000 in
set_option maxHeartbeats 1000000 in
theorem l_X8_countUnused_4 {p : Program} {l : Launch} {e : Env} {s : State} {m : MethodId} {args : Array Value} {below : List Frame} {meth : Method} {c : Code} {D : va_G} {aC : Nat → ClassId} {b0 fu : Nat} {σ0 τ : tM} {v : Int32}  (C : tCx p s m args meth c yX8_countUnused.cls cX8_countUnused 3 (some .int) D aC b0 σ0) (htab : ∀ x ∈ c.exceptionTable.toList, False) (hin : meth.name = yX8_countUnused.name)  : ∀ (n : Nat) (x0 : Nat) (x1 : Int32) (x2 : Int32) (σ : tM), L_X8_countUnused_4 b0 fu  n x0 x1 x2 σ = some (v, τ) → tX p l e s m args below meth c 3 2 43 D aC b0 σ0 (.inl (some (.int v))) τ 4 [(0, .ref (x0)), (1, .int (x1)), (2, .int (x2))] [] σ := by
  intro n
  induction n with
  | zero => intro x0 x1 x2 σ hm; unfold L_X8_countUnused_4 at hm; cases hm
  | succ n ih =>
    intro x0 x1 x2 σ hm
    unfold L_X8_countUnused_4 at hm
    obtain ⟨rc4, hrc⟩ : ∃ z, z = L_X8_countUnused_4 b0 fu  n := ⟨_, rfl⟩
    replace hm := ltb_e hm hrc
    rw [← hrc] at ih
    have hrc4 := ih
    clear ih hrc
    refine zx_iload_n C dX8_countUnused_4 2 rfl ?_
    refine zx_bipush (v := 64) C dX8_countUnused_5 (by decide) ?_
    refine zx_icmp_ge C 32 dX8_countUnused_7 (by decide) (fun c1 => ?_) (fun c1 => ?_)
    · replace hm := ip_e hm c1
      refine zx_iload_n C dX8_countUnused_32 1 rfl ?_
      obtain ⟨rfl, rfl⟩ := ret_e hm
      exact zx_iret C rfl rfl rfl dX8_countUnused_33
    · replace hm := in_e hm c1
      refine zx_iload_n C dX8_countUnused_10 1 rfl ?_
      refine zx_aload_n C dX8_countUnused_11 0 rfl ?_
      refine zx_iload_n C dX8_countUnused_12 2 rfl ?_
      obtain ⟨k2, i3, hm⟩ := ckO_e hm
      obtain ⟨v4, ρ5, h6, hm⟩ := cll_e hm
      refine zx_callV (σ := σ) C [.int (x2)] tC_8 k2 i3 Y_X8_kind W_3_79 W_3_80 W_3_81 (c_X8_kind h6) (by decide) (by decide) rfl (Nat.le_of_ble_eq_true rfl) dX8_countUnused_13 rfl ?_
      refine zx_if_ne C 23 dX8_countUnused_16 (by decide) (fun c7 => ?_) (fun c7 => ?_)
      · replace hm := in_e hm c7
        refine zx_iconst (v := 0) C dX8_countUnused_23 (by decide) ?_
        exact zx_lv [0, 2] [(0, .ref (x0)), (2, .int (x2))] rfl (j_X8_countUnused_24 C htab hin hrc4   hm)
      · replace hm := ip_e hm c7
        refine zx_iconst (v := 1) C dX8_countUnused_19 (by decide) ?_
        refine zx_goto C 24 dX8_countUnused_20 (by decide) ?_
        exact zx_lv [0, 2] [(0, .ref (x0)), (2, .int (x2))] rfl (j_X8_countUnused_24 C htab hin hrc4   hm)
set_option maxRecDepth 100000 in
set_option maxHeartbeats 1000000 in
theorem c_X8_countUnused {l : Launch} {D : va_G} {aC : Nat → ClassId} {b0 fu : Nat} {a0 : Nat} {σ τ : tM} {v : Int32} (hm : m_X8_countUnused b0 fu a0 σ = some (v, τ)) : tMt l D aC b0 yX8_countUnused (Cond.code yX8_countUnused cX8_countUnused 3 (some .int)) 2 43 [.ref (a0)] σ (.inl (some (.int v))) τ := by
  unfold m_X8_countUnused at hm
  obtain ⟨hg, hm⟩ := grw_e hm
  refine tMt_of (n := 0) rfl (Nat.le_of_ble_eq_true rfl) hg ?_
  intro p e s m below meth c C htab hin
  refine zx_lv [0] [(0, .ref (a0))] rfl ?_
  refine zx_iconst (v := 0) C dX8_countUnused_0 (by decide) ?_
  refine zx_istore_n C [(1, .int (0)), (0, .ref (a0))] dX8_countUnused_1 rfl (by decide) rfl ?_
  refine zx_iconst (v := 0) C dX8_countUnused_2 (by decide) ?_
  refine zx_istore_n C [(2, .int (0)), (1, .int (0)), (0, .ref (a0))] dX8_countUnused_3 rfl (by decide) rfl ?_
  exact zx_lv [2, 1, 0] [(0, .ref (a0)), (1, .int (0)), (2, .int (0))] rfl (l_X8_countUnused_4 C htab hin  _ _ _ _ _ hm)
abbrev cX8_isChanged : ByteArray := prog_10_method_19_code
def yX8_isChanged : MethodName := ⟨"SyncTree$Tree", "isChanged", "(I)Z"⟩
theorem Y_X8_isChanged : tY yX8_isChanged cX8_isChanged 2 (some .boolean) 1 := ⟨W_6_72, W_1_4, ⟨by decide +kernel, by decide +kernel⟩, by decide +kernel⟩
theorem dX8_isChanged_0 : decode cX8_isChanged 0 = .ok (.iload_n 1, 1) := by decide +kernel
theorem dX8_isChanged_1 : decode cX8_isChanged 1 = .ok (.ifCond .lt 22, 3) := by decide +kernel
theorem dX8_isChanged_4 : decode cX8_isChanged 4 = .ok (.iload_n 1, 1) := by decide +kernel
theorem dX8_isChanged_5 : decode cX8_isChanged 5 = .ok (.bipush 64, 2) := by decide +kernel
theorem dX8_isChanged_7 : decode cX8_isChanged 7 = .ok (.if_icmp .ge 16, 3) := by decide +kernel
theorem dX8_isChanged_10 : decode cX8_isChanged 10 = .ok (.aload_n 0, 1) := by decide +kernel
theorem dX8_isChanged_11 : decode cX8_isChanged 11 = .ok (.getfield 11, 3) := by decide +kernel
theorem dX8_isChanged_14 : decode cX8_isChanged 14 = .ok (.iload_n 1, 1) := by decide +kernel
theorem dX8_isChanged_15 : decode cX8_isChanged 15 = .ok (.baload, 1) := by decide +kernel
theorem dX8_isChanged_16 : decode cX8_isChanged 16 = .ok (.ifCond .eq 7, 3) := by decide +kernel
theorem dX8_isChanged_19 : decode cX8_isChanged 19 = .ok (.iconst 1, 1) := by decide +kernel
theorem dX8_isChanged_20 : decode cX8_isChanged 20 = .ok (.goto 4, 3) := by decide +kernel
theorem dX8_isChanged_23 : decode cX8_isChanged 23 = .ok (.iconst 0, 1) := by decide +kernel
theorem dX8_isChanged_24 : decode cX8_isChanged 24 = .ok (.ireturn, 1) := by decide +kernel
def J_X8_isChanged_24 (b0 fu : Nat)  (s0 : Int32) (σ : tM) : Option ((Int32) × tM) := ckZ (s0) (some (s0, σ))
def J_X8_isChanged_23 (b0 fu : Nat)   (σ : tM) : Option ((Int32) × tM) := J_X8_isChanged_24 b0 fu   (0) (σ)
def m_X8_isChanged (b0 fu : Nat) (a0 : Nat) (p0 : Int32) (σ : tM) : Option ((Int32) × tM) := grw σ (if (p0) < (0) then J_X8_isChanged_23 b0 fu    (σ) else if (64) ≤ (p0) then J_X8_isChanged_23 b0 fu    (σ) else ckO b0 (σ) (a0) 8 (osm (tA (σ) (a0) 2) (fun a6 => ckR b0 (σ) (a6) 1 (fun n10 => ckI (p0) (n10) (if (tI (σ) (a6) ((p0).toNatClampNeg)) = (0) then J_X8_isChanged_23 b0 fu    (σ) else J_X8_isChanged_24 b0 fu   (1) (σ))))))
set_option maxRecDepth 100000 in
set_option maxHeartbeats 1000000 in
theorem j_X8_isChanged_24 {p : Program} {l : Launch} {e : Env} {s : State} {m : MethodId} {args : Array Value} {below : List Frame} {meth : Method} {c : Code} {D : va_G} {aC : Nat → ClassId} {b0 fu : Nat} {σ0 τ : tM} {v : Int32}  (C : tCx p s m args meth c yX8_isChanged.cls cX8_isChanged 2 (some .boolean) D aC b0 σ0) (htab : ∀ x ∈ c.exceptionTable.toList, False) (hin : meth.name = yX8_isChanged.name)  {s0 : Int32} {σ : tM} (hm : J_X8_isChanged_24 b0 fu  s0 σ = some (v, τ)) : tX p l e s m args below meth c 2 0 0 D aC b0 σ0 (.inl (some (.int v))) τ 24 [] [.int (s0)] σ := by
  unfold J_X8_isChanged_24 at hm
  obtain ⟨h2, hm⟩ := ckZ_e hm
  obtain ⟨rfl, rfl⟩ := ret_e hm
  exact zx_zret C rfl h2 rfl rfl dX8_isChanged_24
set_option maxRecDepth 100000 in
set_option maxHeartbeats 1000000 in
theorem j_X8_isChanged_23 {p : Program} {l : Launch} {e : Env} {s : State} {m : MethodId} {args : Array Value} {below : List Frame} {meth : Method} {c : Code} {D : va_G} {aC : Nat → ClassId} {b0 fu : Nat} {σ0 τ : tM} {v : Int32}  (C : tCx p s m args meth c yX8_isChanged.cls cX8_isChanged 2 (some .boolean) D aC b0 σ0) (htab : ∀ x ∈ c.exceptionTable.toList, False) (hin : meth.name = yX8_isChanged.name)   {σ : tM} (hm : J_X8_isChanged_23 b0 fu   σ = some (v, τ)) : tX p l e s m args below meth c 2 0 0 D aC b0 σ0 (.inl (some (.int v))) τ 23 [] [] σ := by
  unfold J_X8_isChanged_23 at hm
  refine zx_iconst (v := 0) C dX8_isChanged_23 (by decide) ?_
  exact zx_lv [] [] rfl (j_X8_isChanged_24 C htab hin    hm)
set_option maxRecDepth 100000 in
set_option maxHeartbeats 1000000 in
theorem c_X8_isChanged {l : Launch} {D : va_G} {aC : Nat → ClassId} {b0 fu : Nat} {a0 : Nat} {p0 : Int32} {σ τ : tM} {v : Int32} (hm : m_X8_isChanged b0 fu a0 p0 σ = some (v, τ)) : tMt l D aC b0 yX8_isChanged (Cond.code yX8_isChanged cX8_isChanged 2 (some .boolean)) 0 0 [.ref (a0), .int (p0)] σ (.inl (some (.int v))) τ := by
  unfold m_X8_isChanged at hm
  obtain ⟨hg, hm⟩ := grw_e hm
  refine tMt_of (n := 0) rfl (Nat.le_of_ble_eq_true rfl) hg ?_
  intro p e s m below meth c C htab hin
  refine zx_lv [0, 1] [(0, .ref (a0)), (1, .int (p0))] rfl ?_
  refine zx_iload_n C dX8_isChanged_0 1 rfl ?_
  refine zx_if_lt C 23 dX8_isChanged_1 (by decide) (fun c1 => ?_) (fun c1 => ?_)
  · replace hm := ip_e hm c1
    exact zx_lv [] [] rfl (j_X8_isChanged_23 C htab hin    hm)
  · replace hm := in_e hm c1
    refine zx_iload_n C dX8_isChanged_4 1 rfl ?_
    refine zx_bipush (v := 64) C dX8_isChanged_5 (by decide) ?_
    refine zx_icmp_ge C 23 dX8_isChanged_7 (by decide) (fun c3 => ?_) (fun c3 => ?_)
    · replace hm := ip_e hm c3
      exact zx_lv [] [] rfl (j_X8_isChanged_23 C htab hin    hm)
    · replace hm := in_e hm c3
      refine zx_aload_n C dX8_isChanged_10 0 rfl ?_
      obtain ⟨k4, i5, hm⟩ := ckO_e hm
      obtain ⟨a6, h7, hm⟩ := osm_e hm
      refine zx_get (j := 2) C tC_8 k4 i5 ⟨by decide, Or.inl W_1_165⟩ dX8_isChanged_11 (.ref a6) (rf_s h7) ?_
      refine zx_iload_n C dX8_isChanged_14 1 rfl ?_
      obtain ⟨n10, k8, i9, hm⟩ := ckR_e hm
      obtain ⟨h11, hm⟩ := ckI_e hm
      refine zx_bald C k8 i9 h11 dX8_isChanged_15 ?_
      refine zx_if_eq C 23 dX8_isChanged_16 (by decide) (fun c12 => ?_) (fun c12 => ?_)
      · replace hm := ip_e hm c12
        exact zx_lv [] [] rfl (j_X8_isChanged_23 C htab hin    hm)
      · replace hm := in_e hm c12
        refine zx_iconst (v := 1) C dX8_isChanged_19 (by decide) ?_
        refine zx_goto C 24 dX8_isChanged_20 (by decide) ?_
        exact zx_lv [] [] rfl (j_X8_isChanged_24 C htab hin    hm)
abbrev cX8_noteChange : ByteArray := prog_10_method_20_code
def yX8_noteChange : MethodName := ⟨"SyncTree$Tree", "noteChange", "(II)V"⟩
theorem Y_X8_noteChange : tY yX8_noteChange cX8_noteChange 3 none 2 := ⟨W_2_163, W_1_4, ⟨by decide +kernel, by decide +kernel⟩, by decide +kernel⟩
theorem dX8_noteChange_0 : decode cX8_noteChange 0 = .ok (.iload_n 1, 1) := by decide +kernel
theorem dX8_noteChange_1 : decode cX8_noteChange 1 = .ok (.ifCond .lt 17, 3) := by decide +kernel
theorem dX8_noteChange_4 : decode cX8_noteChange 4 = .ok (.iload_n 1, 1) := by decide +kernel
theorem dX8_noteChange_5 : decode cX8_noteChange 5 = .ok (.bipush 64, 2) := by decide +kernel
theorem dX8_noteChange_7 : decode cX8_noteChange 7 = .ok (.if_icmp .ge 11, 3) := by decide +kernel
theorem dX8_noteChange_10 : decode cX8_noteChange 10 = .ok (.aload_n 0, 1) := by decide +kernel
theorem dX8_noteChange_11 : decode cX8_noteChange 11 = .ok (.getfield 11, 3) := by decide +kernel
theorem dX8_noteChange_14 : decode cX8_noteChange 14 = .ok (.iload_n 1, 1) := by decide +kernel
theorem dX8_noteChange_15 : decode cX8_noteChange 15 = .ok (.iload_n 2, 1) := by decide +kernel
theorem dX8_noteChange_16 : decode cX8_noteChange 16 = .ok (.i2b, 1) := by decide +kernel
theorem dX8_noteChange_17 : decode cX8_noteChange 17 = .ok (.bastore, 1) := by decide +kernel
theorem dX8_noteChange_18 : decode cX8_noteChange 18 = .ok (.return_, 1) := by decide +kernel
def J_X8_noteChange_18 (b0 fu : Nat)   (σ : tM) : Option ((Unit) × tM) := some ((), σ)
def m_X8_noteChange (b0 fu : Nat) (a0 : Nat) (p0 : Int32) (p1 : Int32) (σ : tM) : Option ((Unit) × tM) := grw σ (if (p0) < (0) then J_X8_noteChange_18 b0 fu    (σ) else if (64) ≤ (p0) then J_X8_noteChange_18 b0 fu    (σ) else ckO b0 (σ) (a0) 8 (osm (tA (σ) (a0) 2) (fun a5 => ckR b0 (σ) (a5) 1 (fun n9 => ckI (p0) (n9) (J_X8_noteChange_18 b0 fu    (sI (σ) (a5) ((p0).toNatClampNeg) (vp_nar .byte ((p1).toInt8.toInt32))))))))
set_option maxRecDepth 100000 in
set_option maxHeartbeats 1000000 in
theorem j_X8_noteChange_18 {p : Program} {l : Launch} {e : Env} {s : State} {m : MethodId} {args : Array Value} {below : List Frame} {meth : Method} {c : Code} {D : va_G} {aC : Nat → ClassId} {b0 fu : Nat} {σ0 τ : tM} {v : Unit}  (C : tCx p s m args meth c yX8_noteChange.cls cX8_noteChange 3 none D aC b0 σ0) (htab : ∀ x ∈ c.exceptionTable.toList, False) (hin : meth.name = yX8_noteChange.name)   {σ : tM} (hm : J_X8_noteChange_18 b0 fu   σ = some (v, τ)) : tX p l e s m args below meth c 3 0 0 D aC b0 σ0 (.inl none) τ 18 [] [] σ := by
  unfold J_X8_noteChange_18 at hm
  obtain ⟨rfl, rfl⟩ := ret_e hm
  exact zx_vret C rfl rfl rfl dX8_noteChange_18
set_option maxRecDepth 100000 in
set_option maxHeartbeats 1000000 in
theorem c_X8_noteChange {l : Launch} {D : va_G} {aC : Nat → ClassId} {b0 fu : Nat} {a0 : Nat} {p0 : Int32} {p1 : Int32} {σ τ : tM} {v : Unit} (hm : m_X8_noteChange b0 fu a0 p0 p1 σ = some (v, τ)) : tMt l D aC b0 yX8_noteChange (Cond.code yX8_noteChange cX8_noteChange 3 none) 0 0 [.ref (a0), .int (p0), .int (p1)] σ (.inl none) τ := by
  unfold m_X8_noteChange at hm
  obtain ⟨hg, hm⟩ := grw_e hm
  refine tMt_of (n := 0) rfl (Nat.le_of_ble_eq_true rfl) hg ?_
  intro p e s m below meth c C htab hin
  refine zx_lv [0, 1, 2] [(0, .ref (a0)), (1, .int (p0)), (2, .int (p1))] rfl ?_
  refine zx_iload_n C dX8_noteChange_0 1 rfl ?_
  refine zx_if_lt C 18 dX8_noteChange_1 (by decide) (fun c1 => ?_) (fun c1 => ?_)
  · replace hm := ip_e hm c1
    exact zx_lv [] [] rfl (j_X8_noteChange_18 C htab hin    hm)
  · replace hm := in_e hm c1
    refine zx_iload_n C dX8_noteChange_4 1 rfl ?_
    refine zx_bipush (v := 64) C dX8_noteChange_5 (by decide) ?_
    refine zx_icmp_ge C 18 dX8_noteChange_7 (by decide) (fun c2 => ?_) (fun c2 => ?_)
    · replace hm := ip_e hm c2
      exact zx_lv [] [] rfl (j_X8_noteChange_18 C htab hin    hm)
    · replace hm := in_e hm c2
      refine zx_aload_n C dX8_noteChange_10 0 rfl ?_
      obtain ⟨k3, i4, hm⟩ := ckO_e hm
      obtain ⟨a5, h6, hm⟩ := osm_e hm
      refine zx_get (j := 2) C tC_8 k3 i4 ⟨by decide, Or.inl W_1_165⟩ dX8_noteChange_11 (.ref a5) (rf_s h6) ?_
      refine zx_iload_n C dX8_noteChange_14 1 rfl ?_
      refine zx_iload_n C dX8_noteChange_15 2 rfl ?_
      refine zx_i2b C dX8_noteChange_16 ?_
      obtain ⟨n9, k7, i8, hm⟩ := ckR_e hm
      obtain ⟨h10, hm⟩ := ckI_e hm
      refine zx_bast C k7 i8 h10 dX8_noteChange_17 ?_
      exact zx_lv [] [] rfl (j_X8_noteChange_18 C htab hin    hm)
abbrev cX8_isWithin : ByteArray := prog_10_method_22_code
def yX8_isWithin : MethodName := ⟨"SyncTree$Tree", "isWithin", "(II)Z"⟩
theorem Y_X8_isWithin : tY yX8_isWithin cX8_isWithin 5 (some .boolean) 2 := ⟨W_5_113, W_1_4, ⟨by decide +kernel, by decide +kernel⟩, by decide +kernel⟩
theorem dX8_isWithin_0 : decode cX8_isWithin 0 = .ok (.iload_n 1, 1) := by decide +kernel
theorem dX8_isWithin_1 : decode cX8_isWithin 1 = .ok (.istore_n 3, 1) := by decide +kernel
theorem dX8_isWithin_2 : decode cX8_isWithin 2 = .ok (.iconst 0, 1) := by decide +kernel
theorem dX8_isWithin_3 : decode cX8_isWithin 3 = .ok (.istore 4, 2) := by decide +kernel
theorem dX8_isWithin_5 : decode cX8_isWithin 5 = .ok (.iload 4, 2) := by decide +kernel
theorem dX8_isWithin_7 : decode cX8_isWithin 7 = .ok (.bipush 64, 2) := by decide +kernel
theorem dX8_isWithin_9 : decode cX8_isWithin 9 = .ok (.if_icmp .gt 28, 3) := by decide +kernel
theorem dX8_isWithin_12 : decode cX8_isWithin 12 = .ok (.iload_n 3, 1) := by decide +kernel
theorem dX8_isWithin_13 : decode cX8_isWithin 13 = .ok (.iload_n 2, 1) := by decide +kernel
theorem dX8_isWithin_14 : decode cX8_isWithin 14 = .ok (.if_icmp .ne 5, 3) := by decide +kernel
theorem dX8_isWithin_17 : decode cX8_isWithin 17 = .ok (.iconst 1, 1) := by decide +kernel
theorem dX8_isWithin_18 : decode cX8_isWithin 18 = .ok (.ireturn, 1) := by decide +kernel
theorem dX8_isWithin_19 : decode cX8_isWithin 19 = .ok (.iload_n 3, 1) := by decide +kernel
theorem dX8_isWithin_20 : decode cX8_isWithin 20 = .ok (.ifCond .ne 5, 3) := by decide +kernel
theorem dX8_isWithin_23 : decode cX8_isWithin 23 = .ok (.iconst 0, 1) := by decide +kernel
theorem dX8_isWithin_24 : decode cX8_isWithin 24 = .ok (.ireturn, 1) := by decide +kernel
theorem dX8_isWithin_25 : decode cX8_isWithin 25 = .ok (.aload_n 0, 1) := by decide +kernel
theorem dX8_isWithin_26 : decode cX8_isWithin 26 = .ok (.iload_n 3, 1) := by decide +kernel
theorem dX8_isWithin_27 : decode cX8_isWithin 27 = .ok (.invokevirtual 50, 3) := by decide +kernel
theorem dX8_isWithin_30 : decode cX8_isWithin 30 = .ok (.istore_n 3, 1) := by decide +kernel
theorem dX8_isWithin_31 : decode cX8_isWithin 31 = .ok (.iinc 4 1, 3) := by decide +kernel
theorem dX8_isWithin_34 : decode cX8_isWithin 34 = .ok (.goto (-29), 3) := by decide +kernel
theorem dX8_isWithin_37 : decode cX8_isWithin 37 = .ok (.iconst 0, 1) := by decide +kernel
theorem dX8_isWithin_38 : decode cX8_isWithin 38 = .ok (.ireturn, 1) := by decide +kernel
def L_X8_isWithin_5 (b0 fu : Nat)  : Nat → Nat → Int32 → Int32 → Int32 → tM → Option ((Int32) × tM)
  | 0, _, _, _, _, _ => none
  | n + 1, x0, x2, x3, x4, σ => ltb (L_X8_isWithin_5 b0 fu  n) (fun rc5 => if (64) < (x4) then some (0, σ) else if (x3) = (x2) then some (1, σ) else if (x3) = (0) then some (0, σ) else ckO b0 (σ) (x0) 8 (cll (m_X8_parent b0 fu (x0) (x3) (σ)) (fun v6 ρ7 => ltb ((x4) + Int32.ofInt 1) (fun y9 => rc5 (x0) (x2) (v6) (y9) (ρ7)))))
def m_X8_isWithin (b0 fu : Nat) (a0 : Nat) (p0 : Int32) (p1 : Int32) (σ : tM) : Option ((Int32) × tM) := grw σ (L_X8_isWithin_5 b0 fu  (fu) (a0) (p1) (p0) (0) (σ))
set_option maxRecDepth 100000 in
set_option maxHeartbeats 1000000 in
theorem l_X8_isWithin_5 {p : Program} {l : Launch} {e : Env} {s : State} {m : MethodId} {args : Array Value} {below : List Frame} {meth : Method} {c : Code} {D : va_G} {aC : Nat → ClassId} {b0 fu : Nat} {σ0 τ : tM} {v : Int32}  (C : tCx p s m args meth c yX8_isWithin.cls cX8_isWithin 5 (some .boolean) D aC b0 σ0) (htab : ∀ x ∈ c.exceptionTable.toList, False) (hin : meth.name = yX8_isWithin.name)  : ∀ (n : Nat) (x0 : Nat) (x2 : Int32) (x3 : Int32) (x4 : Int32) (σ : tM), L_X8_isWithin_5 b0 fu  n x0 x2 x3 x4 σ = some (v, τ) → tX p l e s m args below meth c 5 2 43 D aC b0 σ0 (.inl (some (.int v))) τ 5 [(0, .ref (x0)), (2, .int (x2)), (3, .int (x3)), (4, .int (x4))] [] σ := by
  intro n
  induction n with
  | zero => intro x0 x2 x3 x4 σ hm; unfold L_X8_isWithin_5 at hm; cases hm
  | succ n ih =>
    intro x0 x2 x3 x4 σ hm
    unfold L_X8_isWithin_5 at hm
    obtain ⟨rc5, hrc⟩ : ∃ z, z = L_X8_isWithin_5 b0 fu  n := ⟨_, rfl⟩
    replace hm := ltb_e hm hrc
    rw [← hrc] at ih
    have hrc5 := ih
    clear ih hrc
    refine zx_iload C dX8_isWithin_5 3 rfl ?_
    refine zx_bipush (v := 64) C dX8_isWithin_7 (by decide) ?_
    refine zx_icmp_gt C 37 dX8_isWithin_9 (by decide) (fun c1 => ?_) (fun c1 => ?_)
    · replace hm := ip_e hm c1
      refine zx_iconst (v := 0) C dX8_isWithin_37 (by decide) ?_
      obtain ⟨rfl, rfl⟩ := ret_e hm
      exact zx_zret C rfl (by decide) rfl rfl dX8_isWithin_38
    · replace hm := in_e hm c1
      refine zx_iload_n C dX8_isWithin_12 2 rfl ?_
      refine zx_iload_n C dX8_isWithin_13 1 rfl ?_
      refine zx_icmp_ne C 19 dX8_isWithin_14 (by decide) (fun c2 => ?_) (fun c2 => ?_)
      · replace hm := in_e hm c2
        refine zx_iload_n C dX8_isWithin_19 2 rfl ?_
        refine zx_if_ne C 25 dX8_isWithin_20 (by decide) (fun c3 => ?_) (fun c3 => ?_)
        · replace hm := in_e hm c3
          refine zx_aload_n C dX8_isWithin_25 0 rfl ?_
          refine zx_iload_n C dX8_isWithin_26 2 rfl ?_
          obtain ⟨k4, i5, hm⟩ := ckO_e hm
          obtain ⟨v6, ρ7, h8, hm⟩ := cll_e hm
          refine zx_callV (σ := σ) C [.int (x3)] tC_8 k4 i5 Y_X8_parent W_4_194 W_4_97 W_4_98 (c_X8_parent h8) (by decide) (by decide) rfl (Nat.le_of_ble_eq_true rfl) dX8_isWithin_27 rfl ?_
          refine zx_istore_n C [(3, .int (v6)), (0, .ref (x0)), (2, .int (x2)), (4, .int (x4))] dX8_isWithin_30 rfl (by decide) rfl ?_
          obtain ⟨y9, hy9⟩ : ∃ z : Int32, z = (x4) + Int32.ofInt 1 := ⟨_, rfl⟩
          replace hm := ltb_e hm hy9
          refine zx_iinc C [(4, .int (y9)), (3, .int (v6)), (0, .ref (x0)), (2, .int (x2))] dX8_isWithin_31 3 rfl hy9.symm (by decide) rfl ?_
          refine zx_goto C 5 dX8_isWithin_34 (by decide) ?_
          exact zx_lv [2, 3, 1, 0] [(0, .ref (x0)), (2, .int (x2)), (3, .int (v6)), (4, .int (y9))] rfl (hrc5 _ _ _ _ _ hm)
        · replace hm := ip_e hm c3
          refine zx_iconst (v := 0) C dX8_isWithin_23 (by decide) ?_
          obtain ⟨rfl, rfl⟩ := ret_e hm
          exact zx_zret C rfl (by decide) rfl rfl dX8_isWithin_24
      · replace hm := ip_e hm c2
        refine zx_iconst (v := 1) C dX8_isWithin_17 (by decide) ?_
        obtain ⟨rfl, rfl⟩ := ret_e hm
        exact zx_zret C rfl (by decide) rfl rfl dX8_isWithin_18
set_option maxRecDepth 100000 in
set_option maxHeartbeats 1000000 in
theorem c_X8_isWithin {l : Launch} {D : va_G} {aC : Nat → ClassId} {b0 fu : Nat} {a0 : Nat} {p0 : Int32} {p1 : Int32} {σ τ : tM} {v : Int32} (hm : m_X8_isWithin b0 fu a0 p0 p1 σ = some (v, τ)) : tMt l D aC b0 yX8_isWithin (Cond.code yX8_isWithin cX8_isWithin 5 (some .boolean)) 2 43 [.ref (a0), .int (p0), .int (p1)] σ (.inl (some (.int v))) τ := by
  unfold m_X8_isWithin at hm
  obtain ⟨hg, hm⟩ := grw_e hm
  refine tMt_of (n := 0) rfl (Nat.le_of_ble_eq_true rfl) hg ?_
  intro p e s m below meth c C htab hin
  refine zx_lv [0, 1, 2] [(0, .ref (a0)), (1, .int (p0)), (2, .int (p1))] rfl ?_
  refine zx_iload_n C dX8_isWithin_0 1 rfl ?_
  refine zx_istore_n C [(3, .int (p0)), (0, .ref (a0)), (1, .int (p0)), (2, .int (p1))] dX8_isWithin_1 rfl (by decide) rfl ?_
  refine zx_iconst (v := 0) C dX8_isWithin_2 (by decide) ?_
  refine zx_istore C [(4, .int (0)), (3, .int (p0)), (0, .ref (a0)), (1, .int (p0)), (2, .int (p1))] dX8_isWithin_3 (by decide) rfl ?_
  exact zx_lv [2, 4, 1, 0] [(0, .ref (a0)), (2, .int (p1)), (3, .int (p0)), (4, .int (0))] rfl (l_X8_isWithin_5 C htab hin  _ _ _ _ _ _ hm)
abbrev cX8_table : ByteArray := prog_10_method_25_code
def yX8_table : MethodName := ⟨"SyncTree$Tree", "table", "(II)J"⟩
theorem Y_X8_table : tY yX8_table cX8_table 5 (some .long) 2 := ⟨W_4_116, W_1_4, ⟨by decide +kernel, by decide +kernel⟩, by decide +kernel⟩
theorem dX8_table_0 : decode cX8_table 0 = .ok (.iload_n 1, 1) := by decide +kernel
theorem dX8_table_1 : decode cX8_table 1 = .ok (.ifCond .lt 22, 3) := by decide +kernel
theorem dX8_table_4 : decode cX8_table 4 = .ok (.iload_n 1, 1) := by decide +kernel
theorem dX8_table_5 : decode cX8_table 5 = .ok (.bipush 64, 2) := by decide +kernel
theorem dX8_table_7 : decode cX8_table 7 = .ok (.if_icmp .ge 16, 3) := by decide +kernel
theorem dX8_table_10 : decode cX8_table 10 = .ok (.iload_n 2, 1) := by decide +kernel
theorem dX8_table_11 : decode cX8_table 11 = .ok (.bipush 8, 2) := by decide +kernel
theorem dX8_table_13 : decode cX8_table 13 = .ok (.if_icmp .lt 10, 3) := by decide +kernel
theorem dX8_table_16 : decode cX8_table 16 = .ok (.iload_n 2, 1) := by decide +kernel
theorem dX8_table_17 : decode cX8_table 17 = .ok (.sipush 1064, 3) := by decide +kernel
theorem dX8_table_20 : decode cX8_table 20 = .ok (.if_icmp .lt 5, 3) := by decide +kernel
theorem dX8_table_23 : decode cX8_table 23 = .ok (.lconst 0, 1) := by decide +kernel
theorem dX8_table_24 : decode cX8_table 24 = .ok (.lreturn, 1) := by decide +kernel
theorem dX8_table_25 : decode cX8_table 25 = .ok (.bipush 64, 2) := by decide +kernel
theorem dX8_table_27 : decode cX8_table 27 = .ok (.iload_n 1, 1) := by decide +kernel
theorem dX8_table_28 : decode cX8_table 28 = .ok (.bipush 16, 2) := by decide +kernel
theorem dX8_table_30 : decode cX8_table 30 = .ok (.imul, 1) := by decide +kernel
theorem dX8_table_31 : decode cX8_table 31 = .ok (.iadd, 1) := by decide +kernel
theorem dX8_table_32 : decode cX8_table 32 = .ok (.istore_n 3, 1) := by decide +kernel
theorem dX8_table_33 : decode cX8_table 33 = .ok (.iload_n 2, 1) := by decide +kernel
theorem dX8_table_34 : decode cX8_table 34 = .ok (.bipush 40, 2) := by decide +kernel
theorem dX8_table_36 : decode cX8_table 36 = .ok (.if_icmp .ge 13, 3) := by decide +kernel
theorem dX8_table_39 : decode cX8_table 39 = .ok (.aload_n 0, 1) := by decide +kernel
theorem dX8_table_40 : decode cX8_table 40 = .ok (.getfield 25, 3) := by decide +kernel
theorem dX8_table_43 : decode cX8_table 43 = .ok (.iload_n 3, 1) := by decide +kernel
theorem dX8_table_44 : decode cX8_table 44 = .ok (.bipush 9, 2) := by decide +kernel
theorem dX8_table_46 : decode cX8_table 46 = .ok (.iadd, 1) := by decide +kernel
theorem dX8_table_47 : decode cX8_table 47 = .ok (.laload, 1) := by decide +kernel
theorem dX8_table_48 : decode cX8_table 48 = .ok (.lreturn, 1) := by decide +kernel
theorem dX8_table_49 : decode cX8_table 49 = .ok (.aload_n 0, 1) := by decide +kernel
theorem dX8_table_50 : decode cX8_table 50 = .ok (.getfield 25, 3) := by decide +kernel
theorem dX8_table_53 : decode cX8_table 53 = .ok (.iload_n 3, 1) := by decide +kernel
theorem dX8_table_54 : decode cX8_table 54 = .ok (.bipush 10, 2) := by decide +kernel
theorem dX8_table_56 : decode cX8_table 56 = .ok (.iadd, 1) := by decide +kernel
theorem dX8_table_57 : decode cX8_table 57 = .ok (.laload, 1) := by decide +kernel
theorem dX8_table_58 : decode cX8_table 58 = .ok (.l2i, 1) := by decide +kernel
theorem dX8_table_59 : decode cX8_table 59 = .ok (.sipush 2047, 3) := by decide +kernel
theorem dX8_table_62 : decode cX8_table 62 = .ok (.iand, 1) := by decide +kernel
theorem dX8_table_63 : decode cX8_table 63 = .ok (.istore 4, 2) := by decide +kernel
theorem dX8_table_65 : decode cX8_table 65 = .ok (.aload_n 0, 1) := by decide +kernel
theorem dX8_table_66 : decode cX8_table 66 = .ok (.getfield 25, 3) := by decide +kernel
theorem dX8_table_69 : decode cX8_table 69 = .ok (.iload 4, 2) := by decide +kernel
theorem dX8_table_71 : decode cX8_table 71 = .ok (.bipush 32, 2) := by decide +kernel
theorem dX8_table_73 : decode cX8_table 73 = .ok (.imul, 1) := by decide +kernel
theorem dX8_table_74 : decode cX8_table 74 = .ok (.iload_n 2, 1) := by decide +kernel
theorem dX8_table_75 : decode cX8_table 75 = .ok (.bipush 40, 2) := by decide +kernel
theorem dX8_table_77 : decode cX8_table 77 = .ok (.isub, 1) := by decide +kernel
theorem dX8_table_78 : decode cX8_table 78 = .ok (.bipush 32, 2) := by decide +kernel
theorem dX8_table_80 : decode cX8_table 80 = .ok (.idiv, 1) := by decide +kernel
theorem dX8_table_81 : decode cX8_table 81 = .ok (.iadd, 1) := by decide +kernel
theorem dX8_table_82 : decode cX8_table 82 = .ok (.laload, 1) := by decide +kernel
theorem dX8_table_83 : decode cX8_table 83 = .ok (.lreturn, 1) := by decide +kernel
def J_X8_table_23 (b0 fu : Nat)   (σ : tM) : Option ((Int64) × tM) := some (0, σ)
def m_X8_table (b0 fu : Nat) (a0 : Nat) (p0 : Int32) (p1 : Int32) (σ : tM) : Option ((Int64) × tM) := grw σ (if (p0) < (0) then J_X8_table_23 b0 fu    (σ) else if (64) ≤ (p0) then J_X8_table_23 b0 fu    (σ) else if (p1) < (8) then J_X8_table_23 b0 fu    (σ) else if (p1) < (1064) then ltb (((64) + ((p0) * (16)) : Int32)) (fun y5 => if (40) ≤ (p1) then ckO b0 (σ) (a0) 8 (osm (tA (σ) (a0) 1) (fun a9 => ckR b0 (σ) (a9) 3 (fun n13 => ckI ((y5) + (10)) (n13) (ltb ((((tL (σ) (a9) (((y5) + (10)).toNatClampNeg)).toInt32) &&& (2047) : Int32)) (fun y15 => osm (tA (σ) (a0) 1) (fun a16 => ckR b0 (σ) (a16) 3 (fun n20 => ckI (((y15) * (32)) + (((p1) - (40)) / (32))) (n20) (some (tL (σ) (a16) ((((y15) * (32)) + (((p1) - (40)) / (32))).toNatClampNeg), σ))))))))) else ckO b0 (σ) (a0) 8 (osm (tA (σ) (a0) 1) (fun a25 => ckR b0 (σ) (a25) 3 (fun n29 => ckI ((y5) + (9)) (n29) (some (tL (σ) (a25) (((y5) + (9)).toNatClampNeg), σ)))))) else J_X8_table_23 b0 fu    (σ))
set_option maxRecDepth 100000 in
set_option maxHeartbeats 1000000 in
theorem j_X8_table_23 {p : Program} {l : Launch} {e : Env} {s : State} {m : MethodId} {args : Array Value} {below : List Frame} {meth : Method} {c : Code} {D : va_G} {aC : Nat → ClassId} {b0 fu : Nat} {σ0 τ : tM} {v : Int64}  (C : tCx p s m args meth c yX8_table.cls cX8_table 5 (some .long) D aC b0 σ0) (htab : ∀ x ∈ c.exceptionTable.toList, False) (hin : meth.name = yX8_table.name)   {σ : tM} (hm : J_X8_table_23 b0 fu   σ = some (v, τ)) : tX p l e s m args below meth c 5 0 0 D aC b0 σ0 (.inl (some (.long v))) τ 23 [] [] σ := by
  unfold J_X8_table_23 at hm
  refine zx_lconst (v := 0) C dX8_table_23 (by decide) ?_
  obtain ⟨rfl, rfl⟩ := ret_e hm
  exact zx_lret C rfl rfl rfl dX8_table_24
set_option maxRecDepth 100000 in
set_option maxHeartbeats 1000000 in
theorem c_X8_table {l : Launch} {D : va_G} {aC : Nat → ClassId} {b0 fu : Nat} {a0 : Nat} {p0 : Int32} {p1 : Int32} {σ τ : tM} {v : Int64} (hm : m_X8_table b0 fu a0 p0 p1 σ = some (v, τ)) : tMt l D aC b0 yX8_table (Cond.code yX8_table cX8_table 5 (some .long)) 0 0 [.ref (a0), .int (p0), .int (p1)] σ (.inl (some (.long v))) τ := by
  unfold m_X8_table at hm
  obtain ⟨hg, hm⟩ := grw_e hm
  refine tMt_of (n := 0) rfl (Nat.le_of_ble_eq_true rfl) hg ?_
  intro p e s m below meth c C htab hin
  refine zx_lv [0, 1, 2] [(0, .ref (a0)), (1, .int (p0)), (2, .int (p1))] rfl ?_
  refine zx_iload_n C dX8_table_0 1 rfl ?_
  refine zx_if_lt C 23 dX8_table_1 (by decide) (fun c1 => ?_) (fun c1 => ?_)
  · replace hm := ip_e hm c1
    exact zx_lv [] [] rfl (j_X8_table_23 C htab hin    hm)
  · replace hm := in_e hm c1
    refine zx_iload_n C dX8_table_4 1 rfl ?_
    refine zx_bipush (v := 64) C dX8_table_5 (by decide) ?_
    refine zx_icmp_ge C 23 dX8_table_7 (by decide) (fun c2 => ?_) (fun c2 => ?_)
    · replace hm := ip_e hm c2
      exact zx_lv [] [] rfl (j_X8_table_23 C htab hin    hm)
    · replace hm := in_e hm c2
      refine zx_iload_n C dX8_table_10 2 rfl ?_
      refine zx_bipush (v := 8) C dX8_table_11 (by decide) ?_
      refine zx_icmp_lt C 23 dX8_table_13 (by decide) (fun c3 => ?_) (fun c3 => ?_)
      · replace hm := ip_e hm c3
        exact zx_lv [] [] rfl (j_X8_table_23 C htab hin    hm)
      · replace hm := in_e hm c3
        refine zx_iload_n C dX8_table_16 2 rfl ?_
        refine zx_sipush (v := 1064) C dX8_table_17 (by decide) ?_
        refine zx_icmp_lt C 25 dX8_table_20 (by decide) (fun c4 => ?_) (fun c4 => ?_)
        · replace hm := ip_e hm c4
          refine zx_bipush (v := 64) C dX8_table_25 (by decide) ?_
          refine zx_iload_n C dX8_table_27 1 rfl ?_
          refine zx_bipush (v := 16) C dX8_table_28 (by decide) ?_
          refine zx_imul C dX8_table_30 ?_
          refine zx_iadd C dX8_table_31 ?_
          refine zx_topi (fun y5 hy5 => ?_)
          replace hm := ltb_e hm hy5
          refine zx_istore_n C [(3, .int (y5)), (0, .ref (a0)), (1, .int (p0)), (2, .int (p1))] dX8_table_32 rfl (by decide) rfl ?_
          refine zx_iload_n C dX8_table_33 3 rfl ?_
          refine zx_bipush (v := 40) C dX8_table_34 (by decide) ?_
          refine zx_icmp_ge C 49 dX8_table_36 (by decide) (fun c6 => ?_) (fun c6 => ?_)
          · replace hm := ip_e hm c6
            refine zx_aload_n C dX8_table_49 1 rfl ?_
            obtain ⟨k7, i8, hm⟩ := ckO_e hm
            obtain ⟨a9, h10, hm⟩ := osm_e hm
            refine zx_get (j := 1) C tC_8 k7 i8 ⟨by decide, Or.inl W_1_164⟩ dX8_table_50 (.ref a9) (rf_s h10) ?_
            refine zx_iload_n C dX8_table_53 0 rfl ?_
            refine zx_bipush (v := 10) C dX8_table_54 (by decide) ?_
            refine zx_iadd C dX8_table_56 ?_
            obtain ⟨n13, k11, i12, hm⟩ := ckR_e hm
            obtain ⟨h14, hm⟩ := ckI_e hm
            refine zx_lald C k11 i12 h14 dX8_table_57 ?_
            refine zx_l2i C dX8_table_58 ?_
            refine zx_sipush (v := 2047) C dX8_table_59 (by decide) ?_
            refine zx_iand C dX8_table_62 ?_
            refine zx_topi (fun y15 hy15 => ?_)
            replace hm := ltb_e hm hy15
            refine zx_istore C [(4, .int (y15)), (3, .int (y5)), (0, .ref (a0)), (1, .int (p0)), (2, .int (p1))] dX8_table_63 (by decide) rfl ?_
            refine zx_aload_n C dX8_table_65 2 rfl ?_
            obtain ⟨a16, h17, hm⟩ := osm_e hm
            refine zx_get (j := 1) C tC_8 k7 i8 ⟨by decide, Or.inl W_1_164⟩ dX8_table_66 (.ref a16) (rf_s h17) ?_
            refine zx_iload C dX8_table_69 0 rfl ?_
            refine zx_bipush (v := 32) C dX8_table_71 (by decide) ?_
            refine zx_imul C dX8_table_73 ?_
            refine zx_iload_n C dX8_table_74 4 rfl ?_
            refine zx_bipush (v := 40) C dX8_table_75 (by decide) ?_
            refine zx_isub C dX8_table_77 ?_
            refine zx_bipush (v := 32) C dX8_table_78 (by decide) ?_
            refine zx_idiv C dX8_table_80 (by decide) ?_
            refine zx_iadd C dX8_table_81 ?_
            obtain ⟨n20, k18, i19, hm⟩ := ckR_e hm
            obtain ⟨h21, hm⟩ := ckI_e hm
            refine zx_lald C k18 i19 h21 dX8_table_82 ?_
            obtain ⟨rfl, rfl⟩ := ret_e hm
            exact zx_lret C rfl rfl rfl dX8_table_83
          · replace hm := in_e hm c6
            refine zx_aload_n C dX8_table_39 1 rfl ?_
            obtain ⟨k23, i24, hm⟩ := ckO_e hm
            obtain ⟨a25, h26, hm⟩ := osm_e hm
            refine zx_get (j := 1) C tC_8 k23 i24 ⟨by decide, Or.inl W_1_164⟩ dX8_table_40 (.ref a25) (rf_s h26) ?_
            refine zx_iload_n C dX8_table_43 0 rfl ?_
            refine zx_bipush (v := 9) C dX8_table_44 (by decide) ?_
            refine zx_iadd C dX8_table_46 ?_
            obtain ⟨n29, k27, i28, hm⟩ := ckR_e hm
            obtain ⟨h30, hm⟩ := ckI_e hm
            refine zx_lald C k27 i28 h30 dX8_table_47 ?_
            obtain ⟨rfl, rfl⟩ := ret_e hm
            exact zx_lret C rfl rfl rfl dX8_table_48
        · replace hm := in_e hm c4
          exact zx_lv [] [] rfl (j_X8_table_23 C htab hin    hm)
abbrev cX8_pointer : ByteArray := prog_10_method_26_code
def yX8_pointer : MethodName := ⟨"SyncTree$Tree", "pointer", "(II)J"⟩
theorem Y_X8_pointer : tY yX8_pointer cX8_pointer 4 (some .long) 2 := ⟨W_4_112, W_1_4, ⟨by decide +kernel, by decide +kernel⟩, by decide +kernel⟩
theorem dX8_pointer_0 : decode cX8_pointer 0 = .ok (.iload_n 2, 1) := by decide +kernel
theorem dX8_pointer_1 : decode cX8_pointer 1 = .ok (.bipush 8, 2) := by decide +kernel
theorem dX8_pointer_3 : decode cX8_pointer 3 = .ok (.if_icmp .ge 20, 3) := by decide +kernel
theorem dX8_pointer_6 : decode cX8_pointer 6 = .ok (.iload_n 2, 1) := by decide +kernel
theorem dX8_pointer_7 : decode cX8_pointer 7 = .ok (.ifCond .ge 7, 3) := by decide +kernel
theorem dX8_pointer_10 : decode cX8_pointer 10 = .ok (.lconst 0, 1) := by decide +kernel
theorem dX8_pointer_11 : decode cX8_pointer 11 = .ok (.goto 11, 3) := by decide +kernel
theorem dX8_pointer_14 : decode cX8_pointer 14 = .ok (.aload_n 0, 1) := by decide +kernel
theorem dX8_pointer_15 : decode cX8_pointer 15 = .ok (.iload_n 1, 1) := by decide +kernel
theorem dX8_pointer_16 : decode cX8_pointer 16 = .ok (.iconst 1, 1) := by decide +kernel
theorem dX8_pointer_17 : decode cX8_pointer 17 = .ok (.iload_n 2, 1) := by decide +kernel
theorem dX8_pointer_18 : decode cX8_pointer 18 = .ok (.iadd, 1) := by decide +kernel
theorem dX8_pointer_19 : decode cX8_pointer 19 = .ok (.invokevirtual 30, 3) := by decide +kernel
theorem dX8_pointer_22 : decode cX8_pointer 22 = .ok (.lreturn, 1) := by decide +kernel
theorem dX8_pointer_23 : decode cX8_pointer 23 = .ok (.aload_n 0, 1) := by decide +kernel
theorem dX8_pointer_24 : decode cX8_pointer 24 = .ok (.iload_n 1, 1) := by decide +kernel
theorem dX8_pointer_25 : decode cX8_pointer 25 = .ok (.iload_n 2, 1) := by decide +kernel
theorem dX8_pointer_26 : decode cX8_pointer 26 = .ok (.invokevirtual 101, 3) := by decide +kernel
theorem dX8_pointer_29 : decode cX8_pointer 29 = .ok (.l2i, 1) := by decide +kernel
theorem dX8_pointer_30 : decode cX8_pointer 30 = .ok (.sipush 2047, 3) := by decide +kernel
theorem dX8_pointer_33 : decode cX8_pointer 33 = .ok (.iand, 1) := by decide +kernel
theorem dX8_pointer_34 : decode cX8_pointer 34 = .ok (.istore_n 3, 1) := by decide +kernel
theorem dX8_pointer_35 : decode cX8_pointer 35 = .ok (.aload_n 0, 1) := by decide +kernel
theorem dX8_pointer_36 : decode cX8_pointer 36 = .ok (.getfield 25, 3) := by decide +kernel
theorem dX8_pointer_39 : decode cX8_pointer 39 = .ok (.iload_n 3, 1) := by decide +kernel
theorem dX8_pointer_40 : decode cX8_pointer 40 = .ok (.bipush 32, 2) := by decide +kernel
theorem dX8_pointer_42 : decode cX8_pointer 42 = .ok (.imul, 1) := by decide +kernel
theorem dX8_pointer_43 : decode cX8_pointer 43 = .ok (.iload_n 2, 1) := by decide +kernel
theorem dX8_pointer_44 : decode cX8_pointer 44 = .ok (.bipush 8, 2) := by decide +kernel
theorem dX8_pointer_46 : decode cX8_pointer 46 = .ok (.isub, 1) := by decide +kernel
theorem dX8_pointer_47 : decode cX8_pointer 47 = .ok (.bipush 32, 2) := by decide +kernel
theorem dX8_pointer_49 : decode cX8_pointer 49 = .ok (.irem, 1) := by decide +kernel
theorem dX8_pointer_50 : decode cX8_pointer 50 = .ok (.iadd, 1) := by decide +kernel
theorem dX8_pointer_51 : decode cX8_pointer 51 = .ok (.laload, 1) := by decide +kernel
theorem dX8_pointer_52 : decode cX8_pointer 52 = .ok (.lreturn, 1) := by decide +kernel
def J_X8_pointer_22 (b0 fu : Nat)  (s0 : Int64) (σ : tM) : Option ((Int64) × tM) := some (s0, σ)
def m_X8_pointer (b0 fu : Nat) (a0 : Nat) (p0 : Int32) (p1 : Int32) (σ : tM) : Option ((Int64) × tM) := grw σ (if (8) ≤ (p1) then ckO b0 (σ) (a0) 8 (cll (m_X8_table b0 fu (a0) (p0) (p1) (σ)) (fun v4 ρ5 => ltb ((((v4).toInt32) &&& (2047) : Int32)) (fun y7 => ckO b0 (ρ5) (a0) 8 (osm (tA (ρ5) (a0) 1) (fun a10 => ckR b0 (ρ5) (a10) 3 (fun n14 => ckI (((y7) * (32)) + (((p1) - (8)) - ((p1) - (8)) / (32) * (32))) (n14) (some (tL (ρ5) (a10) ((((y7) * (32)) + (((p1) - (8)) - ((p1) - (8)) / (32) * (32))).toNatClampNeg), ρ5)))))))) else if (0) ≤ (p1) then ckO b0 (σ) (a0) 8 (cll (m_X8_nodeWord b0 fu (a0) (p0) ((1) + (p1)) (σ)) (fun v20 ρ21 => J_X8_pointer_22 b0 fu   (v20) (ρ21))) else J_X8_pointer_22 b0 fu   (0) (σ))
set_option maxRecDepth 100000 in
set_option maxHeartbeats 1000000 in
theorem j_X8_pointer_22 {p : Program} {l : Launch} {e : Env} {s : State} {m : MethodId} {args : Array Value} {below : List Frame} {meth : Method} {c : Code} {D : va_G} {aC : Nat → ClassId} {b0 fu : Nat} {σ0 τ : tM} {v : Int64}  (C : tCx p s m args meth c yX8_pointer.cls cX8_pointer 4 (some .long) D aC b0 σ0) (htab : ∀ x ∈ c.exceptionTable.toList, False) (hin : meth.name = yX8_pointer.name)  {s0 : Int64} {σ : tM} (hm : J_X8_pointer_22 b0 fu  s0 σ = some (v, τ)) : tX p l e s m args below meth c 4 1 24 D aC b0 σ0 (.inl (some (.long v))) τ 22 [] [.long (s0)] σ := by
  unfold J_X8_pointer_22 at hm
  obtain ⟨rfl, rfl⟩ := ret_e hm
  exact zx_lret C rfl rfl rfl dX8_pointer_22
set_option maxRecDepth 100000 in
set_option maxHeartbeats 1000000 in
theorem c_X8_pointer {l : Launch} {D : va_G} {aC : Nat → ClassId} {b0 fu : Nat} {a0 : Nat} {p0 : Int32} {p1 : Int32} {σ τ : tM} {v : Int64} (hm : m_X8_pointer b0 fu a0 p0 p1 σ = some (v, τ)) : tMt l D aC b0 yX8_pointer (Cond.code yX8_pointer cX8_pointer 4 (some .long)) 1 24 [.ref (a0), .int (p0), .int (p1)] σ (.inl (some (.long v))) τ := by
  unfold m_X8_pointer at hm
  obtain ⟨hg, hm⟩ := grw_e hm
  refine tMt_of (n := 0) rfl (Nat.le_of_ble_eq_true rfl) hg ?_
  intro p e s m below meth c C htab hin
  refine zx_lv [0, 1, 2] [(0, .ref (a0)), (1, .int (p0)), (2, .int (p1))] rfl ?_
  refine zx_iload_n C dX8_pointer_0 2 rfl ?_
  refine zx_bipush (v := 8) C dX8_pointer_1 (by decide) ?_
  refine zx_icmp_ge C 23 dX8_pointer_3 (by decide) (fun c1 => ?_) (fun c1 => ?_)
  · replace hm := ip_e hm c1
    refine zx_aload_n C dX8_pointer_23 0 rfl ?_
    refine zx_iload_n C dX8_pointer_24 1 rfl ?_
    refine zx_iload_n C dX8_pointer_25 2 rfl ?_
    obtain ⟨k2, i3, hm⟩ := ckO_e hm
    obtain ⟨v4, ρ5, h6, hm⟩ := cll_e hm
    refine zx_callV (σ := σ) C [.int (p0), .int (p1)] tC_8 k2 i3 Y_X8_table W_4_113 W_4_115 Wp_25 (c_X8_table h6) (by decide) (by decide) rfl (Nat.le_of_ble_eq_true rfl) dX8_pointer_26 rfl ?_
    refine zx_l2i C dX8_pointer_29 ?_
    refine zx_sipush (v := 2047) C dX8_pointer_30 (by decide) ?_
    refine zx_iand C dX8_pointer_33 ?_
    refine zx_topi (fun y7 hy7 => ?_)
    replace hm := ltb_e hm hy7
    refine zx_istore_n C [(3, .int (y7)), (0, .ref (a0)), (1, .int (p0)), (2, .int (p1))] dX8_pointer_34 rfl (by decide) rfl ?_
    refine zx_aload_n C dX8_pointer_35 1 rfl ?_
    obtain ⟨k8, i9, hm⟩ := ckO_e hm
    obtain ⟨a10, h11, hm⟩ := osm_e hm
    refine zx_get (j := 1) C tC_8 k8 i9 ⟨by decide, Or.inl W_1_164⟩ dX8_pointer_36 (.ref a10) (rf_s h11) ?_
    refine zx_iload_n C dX8_pointer_39 0 rfl ?_
    refine zx_bipush (v := 32) C dX8_pointer_40 (by decide) ?_
    refine zx_imul C dX8_pointer_42 ?_
    refine zx_iload_n C dX8_pointer_43 3 rfl ?_
    refine zx_bipush (v := 8) C dX8_pointer_44 (by decide) ?_
    refine zx_isub C dX8_pointer_46 ?_
    refine zx_bipush (v := 32) C dX8_pointer_47 (by decide) ?_
    refine zx_irem C dX8_pointer_49 (by decide) ?_
    refine zx_iadd C dX8_pointer_50 ?_
    obtain ⟨n14, k12, i13, hm⟩ := ckR_e hm
    obtain ⟨h15, hm⟩ := ckI_e hm
    refine zx_lald C k12 i13 h15 dX8_pointer_51 ?_
    obtain ⟨rfl, rfl⟩ := ret_e hm
    exact zx_lret C rfl rfl rfl dX8_pointer_52
  · replace hm := in_e hm c1
    refine zx_iload_n C dX8_pointer_6 2 rfl ?_
    refine zx_if_ge C 14 dX8_pointer_7 (by decide) (fun c17 => ?_) (fun c17 => ?_)
    · replace hm := ip_e hm c17
      refine zx_aload_n C dX8_pointer_14 0 rfl ?_
      refine zx_iload_n C dX8_pointer_15 1 rfl ?_
      refine zx_iconst (v := 1) C dX8_pointer_16 (by decide) ?_
      refine zx_iload_n C dX8_pointer_17 2 rfl ?_
      refine zx_iadd C dX8_pointer_18 ?_
      obtain ⟨k18, i19, hm⟩ := ckO_e hm
      obtain ⟨v20, ρ21, h22, hm⟩ := cll_e hm
      refine zx_callV (σ := σ) C [.int (p0), .int ((1) + (p1))] tC_8 k18 i19 Y_X8_nodeWord W_3_83 W_3_84 W_3_85 (c_X8_nodeWord h22) (by decide) (by decide) rfl (Nat.le_of_ble_eq_true rfl) dX8_pointer_19 rfl ?_
      exact zx_lv [] [] rfl (j_X8_pointer_22 C htab hin    hm)
    · replace hm := in_e hm c17
      refine zx_lconst (v := 0) C dX8_pointer_10 (by decide) ?_
      refine zx_goto C 22 dX8_pointer_11 (by decide) ?_
      exact zx_lv [] [] rfl (j_X8_pointer_22 C htab hin    hm)
abbrev cX8_needs : ByteArray := prog_10_method_28_code
def yX8_needs : MethodName := ⟨"SyncTree$Tree", "needs", "(III)I"⟩
theorem Y_X8_needs : tY yX8_needs cX8_needs 7 (some .int) 3 := ⟨W_4_173, W_1_4, ⟨by decide +kernel, by decide +kernel⟩, by decide +kernel⟩
theorem dX8_needs_0 : decode cX8_needs 0 = .ok (.iload_n 3, 1) := by decide +kernel
theorem dX8_needs_1 : decode cX8_needs 1 = .ok (.sipush 1064, 3) := by decide +kernel
theorem dX8_needs_4 : decode cX8_needs 4 = .ok (.if_icmp .lt 6, 3) := by decide +kernel
theorem dX8_needs_7 : decode cX8_needs 7 = .ok (.ldc 111, 2) := by decide +kernel
theorem dX8_needs_9 : decode cX8_needs 9 = .ok (.ireturn, 1) := by decide +kernel
theorem dX8_needs_10 : decode cX8_needs 10 = .ok (.iconst 0, 1) := by decide +kernel
theorem dX8_needs_11 : decode cX8_needs 11 = .ok (.istore 4, 2) := by decide +kernel
theorem dX8_needs_13 : decode cX8_needs 13 = .ok (.iload_n 2, 1) := by decide +kernel
theorem dX8_needs_14 : decode cX8_needs 14 = .ok (.istore 5, 2) := by decide +kernel
theorem dX8_needs_16 : decode cX8_needs 16 = .ok (.iload 5, 2) := by decide +kernel
theorem dX8_needs_18 : decode cX8_needs 18 = .ok (.iload_n 3, 1) := by decide +kernel
theorem dX8_needs_19 : decode cX8_needs 19 = .ok (.if_icmp .gt 110, 3) := by decide +kernel
theorem dX8_needs_22 : decode cX8_needs 22 = .ok (.iload 5, 2) := by decide +kernel
theorem dX8_needs_24 : decode cX8_needs 24 = .ok (.iload_n 2, 1) := by decide +kernel
theorem dX8_needs_25 : decode cX8_needs 25 = .ok (.if_icmp .eq 14, 3) := by decide +kernel
theorem dX8_needs_28 : decode cX8_needs 28 = .ok (.iload 5, 2) := by decide +kernel
theorem dX8_needs_30 : decode cX8_needs 30 = .ok (.bipush 8, 2) := by decide +kernel
theorem dX8_needs_32 : decode cX8_needs 32 = .ok (.isub, 1) := by decide +kernel
theorem dX8_needs_33 : decode cX8_needs 33 = .ok (.bipush 32, 2) := by decide +kernel
theorem dX8_needs_35 : decode cX8_needs 35 = .ok (.irem, 1) := by decide +kernel
theorem dX8_needs_36 : decode cX8_needs 36 = .ok (.ifCond .ne 7, 3) := by decide +kernel
theorem dX8_needs_39 : decode cX8_needs 39 = .ok (.iconst 1, 1) := by decide +kernel
theorem dX8_needs_40 : decode cX8_needs 40 = .ok (.goto 4, 3) := by decide +kernel
theorem dX8_needs_43 : decode cX8_needs 43 = .ok (.iconst 0, 1) := by decide +kernel
theorem dX8_needs_44 : decode cX8_needs 44 = .ok (.istore 6, 2) := by decide +kernel
theorem dX8_needs_46 : decode cX8_needs 46 = .ok (.aload_n 0, 1) := by decide +kernel
theorem dX8_needs_47 : decode cX8_needs 47 = .ok (.iload_n 1, 1) := by decide +kernel
theorem dX8_needs_48 : decode cX8_needs 48 = .ok (.iload 5, 2) := by decide +kernel
theorem dX8_needs_50 : decode cX8_needs 50 = .ok (.invokevirtual 112, 3) := by decide +kernel
theorem dX8_needs_53 : decode cX8_needs 53 = .ok (.lconst 0, 1) := by decide +kernel
theorem dX8_needs_54 : decode cX8_needs 54 = .ok (.lcmp, 1) := by decide +kernel
theorem dX8_needs_55 : decode cX8_needs 55 = .ok (.ifCond .ne 6, 3) := by decide +kernel
theorem dX8_needs_58 : decode cX8_needs 58 = .ok (.iinc 4 1, 3) := by decide +kernel
theorem dX8_needs_61 : decode cX8_needs 61 = .ok (.iload 5, 2) := by decide +kernel
theorem dX8_needs_63 : decode cX8_needs 63 = .ok (.bipush 8, 2) := by decide +kernel
theorem dX8_needs_65 : decode cX8_needs 65 = .ok (.if_icmp .lt 23, 3) := by decide +kernel
theorem dX8_needs_68 : decode cX8_needs 68 = .ok (.iload 6, 2) := by decide +kernel
theorem dX8_needs_70 : decode cX8_needs 70 = .ok (.ifCond .eq 18, 3) := by decide +kernel
theorem dX8_needs_73 : decode cX8_needs 73 = .ok (.aload_n 0, 1) := by decide +kernel
theorem dX8_needs_74 : decode cX8_needs 74 = .ok (.iload_n 1, 1) := by decide +kernel
theorem dX8_needs_75 : decode cX8_needs 75 = .ok (.iload 5, 2) := by decide +kernel
theorem dX8_needs_77 : decode cX8_needs 77 = .ok (.invokevirtual 101, 3) := by decide +kernel
theorem dX8_needs_80 : decode cX8_needs 80 = .ok (.lconst 0, 1) := by decide +kernel
theorem dX8_needs_81 : decode cX8_needs 81 = .ok (.lcmp, 1) := by decide +kernel
theorem dX8_needs_82 : decode cX8_needs 82 = .ok (.ifCond .ne 6, 3) := by decide +kernel
theorem dX8_needs_85 : decode cX8_needs 85 = .ok (.iinc 4 1, 3) := by decide +kernel
theorem dX8_needs_88 : decode cX8_needs 88 = .ok (.iload 5, 2) := by decide +kernel
theorem dX8_needs_90 : decode cX8_needs 90 = .ok (.bipush 40, 2) := by decide +kernel
theorem dX8_needs_92 : decode cX8_needs 92 = .ok (.if_icmp .lt 31, 3) := by decide +kernel
theorem dX8_needs_95 : decode cX8_needs 95 = .ok (.iload 5, 2) := by decide +kernel
theorem dX8_needs_97 : decode cX8_needs 97 = .ok (.iload_n 2, 1) := by decide +kernel
theorem dX8_needs_98 : decode cX8_needs 98 = .ok (.if_icmp .eq 10, 3) := by decide +kernel
theorem dX8_needs_101 : decode cX8_needs 101 = .ok (.iload 5, 2) := by decide +kernel
theorem dX8_needs_103 : decode cX8_needs 103 = .ok (.bipush 40, 2) := by decide +kernel
theorem dX8_needs_105 : decode cX8_needs 105 = .ok (.if_icmp .ne 18, 3) := by decide +kernel
theorem dX8_needs_108 : decode cX8_needs 108 = .ok (.aload_n 0, 1) := by decide +kernel
theorem dX8_needs_109 : decode cX8_needs 109 = .ok (.iload_n 1, 1) := by decide +kernel
theorem dX8_needs_110 : decode cX8_needs 110 = .ok (.bipush 10, 2) := by decide +kernel
theorem dX8_needs_112 : decode cX8_needs 112 = .ok (.invokevirtual 30, 3) := by decide +kernel
theorem dX8_needs_115 : decode cX8_needs 115 = .ok (.lconst 0, 1) := by decide +kernel
theorem dX8_needs_116 : decode cX8_needs 116 = .ok (.lcmp, 1) := by decide +kernel
theorem dX8_needs_117 : decode cX8_needs 117 = .ok (.ifCond .ne 6, 3) := by decide +kernel
theorem dX8_needs_120 : decode cX8_needs 120 = .ok (.iinc 4 1, 3) := by decide +kernel
theorem dX8_needs_123 : decode cX8_needs 123 = .ok (.iinc 5 1, 3) := by decide +kernel
theorem dX8_needs_126 : decode cX8_needs 126 = .ok (.goto (-110), 3) := by decide +kernel
theorem dX8_needs_129 : decode cX8_needs 129 = .ok (.iload 4, 2) := by decide +kernel
theorem dX8_needs_131 : decode cX8_needs 131 = .ok (.ireturn, 1) := by decide +kernel
def J_X8_needs_123 (b0 fu : Nat) (rc16 : Nat → Int32 → Int32 → Int32 → Int32 → Int32 → tM → Option ((Int32) × tM)) (x0 : Nat) (x1 : Int32) (x2 : Int32) (x3 : Int32) (x4 : Int32) (x5 : Int32) (σ : tM) : Option ((Int32) × tM) := ltb ((x5) + Int32.ofInt 1) (fun y12 => rc16 (x0) (x1) (x2) (x3) (x4) (y12) (σ))
def J_X8_needs_108 (b0 fu : Nat) (rc16 : Nat → Int32 → Int32 → Int32 → Int32 → Int32 → tM → Option ((Int32) × tM)) (x0 : Nat) (x1 : Int32) (x2 : Int32) (x3 : Int32) (x4 : Int32) (x5 : Int32) (σ : tM) : Option ((Int32) × tM) := ckO b0 (σ) (x0) 8 (cll (m_X8_nodeWord b0 fu (x0) (x1) (10) (σ)) (fun v16 ρ17 => if (lg_cmp (v16) (0)) = (0) then ltb ((x4) + Int32.ofInt 1) (fun y20 => J_X8_needs_123 b0 fu rc16  (x0) (x1) (x2) (x3) (y20) (x5) (ρ17)) else J_X8_needs_123 b0 fu rc16  (x0) (x1) (x2) (x3) (x4) (x5) (ρ17)))
def J_X8_needs_88 (b0 fu : Nat) (rc16 : Nat → Int32 → Int32 → Int32 → Int32 → Int32 → tM → Option ((Int32) × tM)) (x0 : Nat) (x1 : Int32) (x2 : Int32) (x3 : Int32) (x4 : Int32) (x5 : Int32) (σ : tM) : Option ((Int32) × tM) := if (x5) < (40) then J_X8_needs_123 b0 fu rc16  (x0) (x1) (x2) (x3) (x4) (x5) (σ) else if (x5) = (x2) then J_X8_needs_108 b0 fu rc16  (x0) (x1) (x2) (x3) (x4) (x5) (σ) else if (x5) = (40) then J_X8_needs_108 b0 fu rc16  (x0) (x1) (x2) (x3) (x4) (x5) (σ) else J_X8_needs_123 b0 fu rc16  (x0) (x1) (x2) (x3) (x4) (x5) (σ)
def J_X8_needs_61 (b0 fu : Nat) (rc16 : Nat → Int32 → Int32 → Int32 → Int32 → Int32 → tM → Option ((Int32) × tM)) (x0 : Nat) (x1 : Int32) (x2 : Int32) (x3 : Int32) (x4 : Int32) (x5 : Int32) (x6 : Int32) (σ : tM) : Option ((Int32) × tM) := if (x5) < (8) then J_X8_needs_88 b0 fu rc16  (x0) (x1) (x2) (x3) (x4) (x5) (σ) else if (x6) = (0) then J_X8_needs_88 b0 fu rc16  (x0) (x1) (x2) (x3) (x4) (x5) (σ) else ckO b0 (σ) (x0) 8 (cll (m_X8_table b0 fu (x0) (x1) (x5) (σ)) (fun v25 ρ26 => if (lg_cmp (v25) (0)) = (0) then ltb ((x4) + Int32.ofInt 1) (fun y29 => J_X8_needs_88 b0 fu rc16  (x0) (x1) (x2) (x3) (y29) (x5) (ρ26)) else J_X8_needs_88 b0 fu rc16  (x0) (x1) (x2) (x3) (x4) (x5) (ρ26)))
def J_X8_needs_44 (b0 fu : Nat) (rc16 : Nat → Int32 → Int32 → Int32 → Int32 → Int32 → tM → Option ((Int32) × tM)) (x0 : Nat) (x1 : Int32) (x2 : Int32) (x3 : Int32) (x4 : Int32) (x5 : Int32) (s0 : Int32) (σ : tM) : Option ((Int32) × tM) := ckO b0 (σ) (x0) 8 (cll (m_X8_pointer b0 fu (x0) (x1) (x5) (σ)) (fun v6 ρ7 => if (lg_cmp (v6) (0)) = (0) then ltb ((x4) + Int32.ofInt 1) (fun y30 => J_X8_needs_61 b0 fu rc16  (x0) (x1) (x2) (x3) (y30) (x5) (s0) (ρ7)) else J_X8_needs_61 b0 fu rc16  (x0) (x1) (x2) (x3) (x4) (x5) (s0) (ρ7)))
def J_X8_needs_39 (b0 fu : Nat) (rc16 : Nat → Int32 → Int32 → Int32 → Int32 → Int32 → tM → Option ((Int32) × tM)) (x0 : Nat) (x1 : Int32) (x2 : Int32) (x3 : Int32) (x4 : Int32) (x5 : Int32) (σ : tM) : Option ((Int32) × tM) := J_X8_needs_44 b0 fu rc16  (x0) (x1) (x2) (x3) (x4) (x5) (1) (σ)
def L_X8_needs_16 (b0 fu : Nat)  : Nat → Nat → Int32 → Int32 → Int32 → Int32 → Int32 → tM → Option ((Int32) × tM)
  | 0, _, _, _, _, _, _, _ => none
  | n + 1, x0, x1, x2, x3, x4, x5, σ => ltb (L_X8_needs_16 b0 fu  n) (fun rc16 => if (x3) < (x5) then some (x4, σ) else if (x5) = (x2) then J_X8_needs_39 b0 fu rc16  (x0) (x1) (x2) (x3) (x4) (x5) (σ) else if (((x5) - (8)) - ((x5) - (8)) / (32) * (32)) = (0) then J_X8_needs_39 b0 fu rc16  (x0) (x1) (x2) (x3) (x4) (x5) (σ) else J_X8_needs_44 b0 fu rc16  (x0) (x1) (x2) (x3) (x4) (x5) (0) (σ))
def m_X8_needs (b0 fu : Nat) (a0 : Nat) (p0 : Int32) (p1 : Int32) (p2 : Int32) (σ : tM) : Option ((Int32) × tM) := grw σ (if (p2) < (1064) then L_X8_needs_16 b0 fu  (fu) (a0) (p0) (p1) (p2) (0) (p1) (σ) else some (1000000, σ))
set_option maxRecDepth 100000 in
set_option maxHeartbeats 1000000 in
theorem j_X8_needs_123 {p : Program} {l : Launch} {e : Env} {s : State} {m : MethodId} {args : Array Value} {below : List Frame} {meth : Method} {c : Code} {D : va_G} {aC : Nat → ClassId} {b0 fu : Nat} {σ0 τ : tM} {v : Int32} {rc16 : Nat → Int32 → Int32 → Int32 → Int32 → Int32 → tM → Option ((Int32) × tM)} (C : tCx p s m args meth c yX8_needs.cls cX8_needs 7 (some .int) D aC b0 σ0) (htab : ∀ x ∈ c.exceptionTable.toList, False) (hin : meth.name = yX8_needs.name) (hrc16 : ∀ (x0 : Nat) (x1 : Int32) (x2 : Int32) (x3 : Int32) (x4 : Int32) (x5 : Int32) (ρ : tM), rc16 x0 x1 x2 x3 x4 x5 ρ = some (v, τ) → tX p l e s m args below meth c 7 2 47 D aC b0 σ0 (.inl (some (.int v))) τ 16 [(0, .ref (x0)), (1, .int (x1)), (2, .int (x2)), (3, .int (x3)), (4, .int (x4)), (5, .int (x5))] [] ρ) {x0 : Nat} {x1 : Int32} {x2 : Int32} {x3 : Int32} {x4 : Int32} {x5 : Int32} {σ : tM} (hm : J_X8_needs_123 b0 fu rc16 x0 x1 x2 x3 x4 x5 σ = some (v, τ)) : tX p l e s m args below meth c 7 2 47 D aC b0 σ0 (.inl (some (.int v))) τ 123 [(0, .ref (x0)), (1, .int (x1)), (2, .int (x2)), (3, .int (x3)), (4, .int (x4)), (5, .int (x5))] [] σ := by
  unfold J_X8_needs_123 at hm
  obtain ⟨y12, hy12⟩ : ∃ z : Int32, z = (x5) + Int32.ofInt 1 := ⟨_, rfl⟩
  replace hm := ltb_e hm hy12
  refine zx_iinc C [(5, .int (y12)), (0, .ref (x0)), (1, .int (x1)), (2, .int (x2)), (3, .int (x3)), (4, .int (x4))] dX8_needs_123 5 rfl hy12.symm (by decide) rfl ?_
  refine zx_goto C 16 dX8_needs_126 (by decide) ?_
  exact zx_lv [1, 2, 3, 4, 5, 0] [(0, .ref (x0)), (1, .int (x1)), (2, .int (x2)), (3, .int (x3)), (4, .int (x4)), (5, .int (y12))] rfl (hrc16 _ _ _ _ _ _ _ hm)
set_option maxRecDepth 100000 in
set_option maxHeartbeats 1000000 in
theorem j_X8_needs_108 {p : Program} {l : Launch} {e : Env} {s : State} {m : MethodId} {args : Array Value} {below : List Frame} {meth : Method} {c : Code} {D : va_G} {aC : Nat → ClassId} {b0 fu : Nat} {σ0 τ : tM} {v : Int32} {rc16 : Nat → Int32 → Int32 → Int32 → Int32 → Int32 → tM → Option ((Int32) × tM)} (C : tCx p s m args meth c yX8_needs.cls cX8_needs 7 (some .int) D aC b0 σ0) (htab : ∀ x ∈ c.exceptionTable.toList, False) (hin : meth.name = yX8_needs.name) (hrc16 : ∀ (x0 : Nat) (x1 : Int32) (x2 : Int32) (x3 : Int32) (x4 : Int32) (x5 : Int32) (ρ : tM), rc16 x0 x1 x2 x3 x4 x5 ρ = some (v, τ) → tX p l e s m args below meth c 7 2 47 D aC b0 σ0 (.inl (some (.int v))) τ 16 [(0, .ref (x0)), (1, .int (x1)), (2, .int (x2)), (3, .int (x3)), (4, .int (x4)), (5, .int (x5))] [] ρ) {x0 : Nat} {x1 : Int32} {x2 : Int32} {x3 : Int32} {x4 : Int32} {x5 : Int32} {σ : tM} (hm : J_X8_needs_108 b0 fu rc16 x0 x1 x2 x3 x4 x5 σ = some (v, τ)) : tX p l e s m args below meth c 7 2 47 D aC b0 σ0 (.inl (some (.int v))) τ 108 [(0, .ref (x0)), (1, .int (x1)), (2, .int (x2)), (3, .int (x3)), (4, .int (x4)), (5, .int (x5))] [] σ := by
  unfold J_X8_needs_108 at hm
  refine zx_aload_n C dX8_needs_108 0 rfl ?_
  refine zx_iload_n C dX8_needs_109 1 rfl ?_
  refine zx_bipush (v := 10) C dX8_needs_110 (by decide) ?_
  obtain ⟨k14, i15, hm⟩ := ckO_e hm
  obtain ⟨v16, ρ17, h18, hm⟩ := cll_e hm
  refine zx_callV (σ := σ) C [.int (x1), .int (10)] tC_8 k14 i15 Y_X8_nodeWord W_3_83 W_3_84 W_3_85 (c_X8_nodeWord h18) (by decide) (by decide) rfl (Nat.le_of_ble_eq_true rfl) dX8_needs_112 rfl ?_
  refine zx_lconst (v := 0) C dX8_needs_115 (by decide) ?_
  refine zx_lcmp C dX8_needs_116 ?_
  refine zx_if_ne C 123 dX8_needs_117 (by decide) (fun c19 => ?_) (fun c19 => ?_)
  · replace hm := in_e hm c19
    exact zx_lv [0, 1, 2, 3, 4, 5] [(0, .ref (x0)), (1, .int (x1)), (2, .int (x2)), (3, .int (x3)), (4, .int (x4)), (5, .int (x5))] rfl (j_X8_needs_123 C htab hin hrc16   hm)
  · replace hm := ip_e hm c19
    obtain ⟨y20, hy20⟩ : ∃ z : Int32, z = (x4) + Int32.ofInt 1 := ⟨_, rfl⟩
    replace hm := ltb_e hm hy20
    refine zx_iinc C [(4, .int (y20)), (0, .ref (x0)), (1, .int (x1)), (2, .int (x2)), (3, .int (x3)), (5, .int (x5))] dX8_needs_120 4 rfl hy20.symm (by decide) rfl ?_
    exact zx_lv [1, 2, 3, 4, 0, 5] [(0, .ref (x0)), (1, .int (x1)), (2, .int (x2)), (3, .int (x3)), (4, .int (y20)), (5, .int (x5))] rfl (j_X8_needs_123 C htab hin hrc16   hm)
set_option maxRecDepth 100000 in
set_option maxHeartbeats 1000000 in
theorem j_X8_needs_88 {p : Program} {l : Launch} {e : Env} {s : State} {m : MethodId} {args : Array Value} {below : List Frame} {meth : Method} {c : Code} {D : va_G} {aC : Nat → ClassId} {b0 fu : Nat} {σ0 τ : tM} {v : Int32} {rc16 : Nat → Int32 → Int32 → Int32 → Int32 → Int32 → tM → Option ((Int32) × tM)} (C : tCx p s m args meth c yX8_needs.cls cX8_needs 7 (some .int) D aC b0 σ0) (htab : ∀ x ∈ c.exceptionTable.toList, False) (hin : meth.name = yX8_needs.name) (hrc16 : ∀ (x0 : Nat) (x1 : Int32) (x2 : Int32) (x3 : Int32) (x4 : Int32) (x5 : Int32) (ρ : tM), rc16 x0 x1 x2 x3 x4 x5 ρ = some (v, τ) → tX p l e s m args below meth c 7 2 47 D aC b0 σ0 (.inl (some (.int v))) τ 16 [(0, .ref (x0)), (1, .int (x1)), (2, .int (x2)), (3, .int (x3)), (4, .int (x4)), (5, .int (x5))] [] ρ) {x0 : Nat} {x1 : Int32} {x2 : Int32} {x3 : Int32} {x4 : Int32} {x5 : Int32} {σ : tM} (hm : J_X8_needs_88 b0 fu rc16 x0 x1 x2 x3 x4 x5 σ = some (v, τ)) : tX p l e s m args below meth c 7 2 47 D aC b0 σ0 (.inl (some (.int v))) τ 88 [(0, .ref (x0)), (1, .int (x1)), (2, .int (x2)), (3, .int (x3)), (4, .int (x4)), (5, .int (x5))] [] σ := by
  unfold J_X8_needs_88 at hm
  refine zx_iload C dX8_needs_88 5 rfl ?_
  refine zx_bipush (v := 40) C dX8_needs_90 (by decide) ?_
  refine zx_icmp_lt C 123 dX8_needs_92 (by decide) (fun c11 => ?_) (fun c11 => ?_)
  · replace hm := ip_e hm c11
    exact zx_lv [0, 1, 2, 3, 4, 5] [(0, .ref (x0)), (1, .int (x1)), (2, .int (x2)), (3, .int (x3)), (4, .int (x4)), (5, .int (x5))] rfl (j_X8_needs_123 C htab hin hrc16   hm)
  · replace hm := in_e hm c11
    refine zx_iload C dX8_needs_95 5 rfl ?_
    refine zx_iload_n C dX8_needs_97 2 rfl ?_
    refine zx_icmp_eq C 108 dX8_needs_98 (by decide) (fun c13 => ?_) (fun c13 => ?_)
    · replace hm := ip_e hm c13
      exact zx_lv [0, 1, 2, 3, 4, 5] [(0, .ref (x0)), (1, .int (x1)), (2, .int (x2)), (3, .int (x3)), (4, .int (x4)), (5, .int (x5))] rfl (j_X8_needs_108 C htab hin hrc16   hm)
    · replace hm := in_e hm c13
      refine zx_iload C dX8_needs_101 5 rfl ?_
      refine zx_bipush (v := 40) C dX8_needs_103 (by decide) ?_
      refine zx_icmp_ne C 123 dX8_needs_105 (by decide) (fun c21 => ?_) (fun c21 => ?_)
      · replace hm := in_e hm c21
        exact zx_lv [0, 1, 2, 3, 4, 5] [(0, .ref (x0)), (1, .int (x1)), (2, .int (x2)), (3, .int (x3)), (4, .int (x4)), (5, .int (x5))] rfl (j_X8_needs_123 C htab hin hrc16   hm)
      · replace hm := ip_e hm c21
        exact zx_lv [0, 1, 2, 3, 4, 5] [(0, .ref (x0)), (1, .int (x1)), (2, .int (x2)), (3, .int (x3)), (4, .int (x4)), (5, .int (x5))] rfl (j_X8_needs_108 C htab hin hrc16   hm)
set_option maxRecDepth 100000 in
set_option maxHeartbeats 1000000 in
theorem j_X8_needs_61 {p : Program} {l : Launch} {e : Env} {s : State} {m : MethodId} {args : Array Value} {below : List Frame} {meth : Method} {c : Code} {D : va_G} {aC : Nat → ClassId} {b0 fu : Nat} {σ0 τ : tM} {v : Int32} {rc16 : Nat → Int32 → Int32 → Int32 → Int32 → Int32 → tM → Option ((Int32) × tM)} (C : tCx p s m args meth c yX8_needs.cls cX8_needs 7 (some .int) D aC b0 σ0) (htab : ∀ x ∈ c.exceptionTable.toList, False) (hin : meth.name = yX8_needs.name) (hrc16 : ∀ (x0 : Nat) (x1 : Int32) (x2 : Int32) (x3 : Int32) (x4 : Int32) (x5 : Int32) (ρ : tM), rc16 x0 x1 x2 x3 x4 x5 ρ = some (v, τ) → tX p l e s m args below meth c 7 2 47 D aC b0 σ0 (.inl (some (.int v))) τ 16 [(0, .ref (x0)), (1, .int (x1)), (2, .int (x2)), (3, .int (x3)), (4, .int (x4)), (5, .int (x5))] [] ρ) {x0 : Nat} {x1 : Int32} {x2 : Int32} {x3 : Int32} {x4 : Int32} {x5 : Int32} {x6 : Int32} {σ : tM} (hm : J_X8_needs_61 b0 fu rc16 x0 x1 x2 x3 x4 x5 x6 σ = some (v, τ)) : tX p l e s m args below meth c 7 2 47 D aC b0 σ0 (.inl (some (.int v))) τ 61 [(0, .ref (x0)), (1, .int (x1)), (2, .int (x2)), (3, .int (x3)), (4, .int (x4)), (5, .int (x5)), (6, .int (x6))] [] σ := by
  unfold J_X8_needs_61 at hm
  refine zx_iload C dX8_needs_61 5 rfl ?_
  refine zx_bipush (v := 8) C dX8_needs_63 (by decide) ?_
  refine zx_icmp_lt C 88 dX8_needs_65 (by decide) (fun c10 => ?_) (fun c10 => ?_)
  · replace hm := ip_e hm c10
    exact zx_lv [0, 1, 2, 3, 4, 5] [(0, .ref (x0)), (1, .int (x1)), (2, .int (x2)), (3, .int (x3)), (4, .int (x4)), (5, .int (x5))] rfl (j_X8_needs_88 C htab hin hrc16   hm)
  · replace hm := in_e hm c10
    refine zx_iload C dX8_needs_68 6 rfl ?_
    refine zx_if_eq C 88 dX8_needs_70 (by decide) (fun c22 => ?_) (fun c22 => ?_)
    · replace hm := ip_e hm c22
      exact zx_lv [0, 1, 2, 3, 4, 5] [(0, .ref (x0)), (1, .int (x1)), (2, .int (x2)), (3, .int (x3)), (4, .int (x4)), (5, .int (x5))] rfl (j_X8_needs_88 C htab hin hrc16   hm)
    · replace hm := in_e hm c22
      refine zx_aload_n C dX8_needs_73 0 rfl ?_
      refine zx_iload_n C dX8_needs_74 1 rfl ?_
      refine zx_iload C dX8_needs_75 5 rfl ?_
      obtain ⟨k23, i24, hm⟩ := ckO_e hm
      obtain ⟨v25, ρ26, h27, hm⟩ := cll_e hm
      refine zx_callV (σ := σ) C [.int (x1), .int (x5)] tC_8 k23 i24 Y_X8_table W_4_113 W_4_115 Wp_25 (c_X8_table h27) (by decide) (by decide) rfl (Nat.le_of_ble_eq_true rfl) dX8_needs_77 rfl ?_
      refine zx_lconst (v := 0) C dX8_needs_80 (by decide) ?_
      refine zx_lcmp C dX8_needs_81 ?_
      refine zx_if_ne C 88 dX8_needs_82 (by decide) (fun c28 => ?_) (fun c28 => ?_)
      · replace hm := in_e hm c28
        exact zx_lv [0, 1, 2, 3, 4, 5] [(0, .ref (x0)), (1, .int (x1)), (2, .int (x2)), (3, .int (x3)), (4, .int (x4)), (5, .int (x5))] rfl (j_X8_needs_88 C htab hin hrc16   hm)
      · replace hm := ip_e hm c28
        obtain ⟨y29, hy29⟩ : ∃ z : Int32, z = (x4) + Int32.ofInt 1 := ⟨_, rfl⟩
        replace hm := ltb_e hm hy29
        refine zx_iinc C [(4, .int (y29)), (0, .ref (x0)), (1, .int (x1)), (2, .int (x2)), (3, .int (x3)), (5, .int (x5)), (6, .int (x6))] dX8_needs_85 4 rfl hy29.symm (by decide) rfl ?_
        exact zx_lv [1, 2, 3, 4, 0, 5] [(0, .ref (x0)), (1, .int (x1)), (2, .int (x2)), (3, .int (x3)), (4, .int (y29)), (5, .int (x5))] rfl (j_X8_needs_88 C htab hin hrc16   hm)
set_option maxRecDepth 100000 in
set_option maxHeartbeats 1000000 in
theorem j_X8_needs_44 {p : Program} {l : Launch} {e : Env} {s : State} {m : MethodId} {args : Array Value} {below : List Frame} {meth : Method} {c : Code} {D : va_G} {aC : Nat → ClassId} {b0 fu : Nat} {σ0 τ : tM} {v : Int32} {rc16 : Nat → Int32 → Int32 → Int32 → Int32 → Int32 → tM → Option ((Int32) × tM)} (C : tCx p s m args meth c yX8_needs.cls cX8_needs 7 (some .int) D aC b0 σ0) (htab : ∀ x ∈ c.exceptionTable.toList, False) (hin : meth.name = yX8_needs.name) (hrc16 : ∀ (x0 : Nat) (x1 : Int32) (x2 : Int32) (x3 : Int32) (x4 : Int32) (x5 : Int32) (ρ : tM), rc16 x0 x1 x2 x3 x4 x5 ρ = some (v, τ) → tX p l e s m args below meth c 7 2 47 D aC b0 σ0 (.inl (some (.int v))) τ 16 [(0, .ref (x0)), (1, .int (x1)), (2, .int (x2)), (3, .int (x3)), (4, .int (x4)), (5, .int (x5))] [] ρ) {x0 : Nat} {x1 : Int32} {x2 : Int32} {x3 : Int32} {x4 : Int32} {x5 : Int32} {s0 : Int32} {σ : tM} (hm : J_X8_needs_44 b0 fu rc16 x0 x1 x2 x3 x4 x5 s0 σ = some (v, τ)) : tX p l e s m args below meth c 7 2 47 D aC b0 σ0 (.inl (some (.int v))) τ 44 [(0, .ref (x0)), (1, .int (x1)), (2, .int (x2)), (3, .int (x3)), (4, .int (x4)), (5, .int (x5))] [.int (s0)] σ := by
  unfold J_X8_needs_44 at hm
  refine zx_istore C [(6, .int (s0)), (0, .ref (x0)), (1, .int (x1)), (2, .int (x2)), (3, .int (x3)), (4, .int (x4)), (5, .int (x5))] dX8_needs_44 (by decide) rfl ?_
  refine zx_aload_n C dX8_needs_46 1 rfl ?_
  refine zx_iload_n C dX8_needs_47 2 rfl ?_
  refine zx_iload C dX8_needs_48 6 rfl ?_
  obtain ⟨k4, i5, hm⟩ := ckO_e hm
  obtain ⟨v6, ρ7, h8, hm⟩ := cll_e hm
  refine zx_callV (σ := σ) C [.int (x1), .int (x5)] tC_8 k4 i5 Y_X8_pointer W_4_109 W_4_110 W_4_111 (c_X8_pointer h8) (by decide) (by decide) rfl (Nat.le_of_ble_eq_true rfl) dX8_needs_50 rfl ?_
  refine zx_lconst (v := 0) C dX8_needs_53 (by decide) ?_
  refine zx_lcmp C dX8_needs_54 ?_
  refine zx_if_ne C 61 dX8_needs_55 (by decide) (fun c9 => ?_) (fun c9 => ?_)
  · replace hm := in_e hm c9
    exact zx_lv [1, 2, 3, 4, 5, 6, 0] [(0, .ref (x0)), (1, .int (x1)), (2, .int (x2)), (3, .int (x3)), (4, .int (x4)), (5, .int (x5)), (6, .int (s0))] rfl (j_X8_needs_61 C htab hin hrc16   hm)
  · replace hm := ip_e hm c9
    obtain ⟨y30, hy30⟩ : ∃ z : Int32, z = (x4) + Int32.ofInt 1 := ⟨_, rfl⟩
    replace hm := ltb_e hm hy30
    refine zx_iinc C [(4, .int (y30)), (6, .int (s0)), (0, .ref (x0)), (1, .int (x1)), (2, .int (x2)), (3, .int (x3)), (5, .int (x5))] dX8_needs_58 5 rfl hy30.symm (by decide) rfl ?_
    exact zx_lv [2, 3, 4, 5, 0, 6, 1] [(0, .ref (x0)), (1, .int (x1)), (2, .int (x2)), (3, .int (x3)), (4, .int (y30)), (5, .int (x5)), (6, .int (s0))] rfl (j_X8_needs_61 C htab hin hrc16   hm)
set_option maxRecDepth 100000 in
set_option maxHeartbeats 1000000 in
theorem j_X8_needs_39 {p : Program} {l : Launch} {e : Env} {s : State} {m : MethodId} {args : Array Value} {below : List Frame} {meth : Method} {c : Code} {D : va_G} {aC : Nat → ClassId} {b0 fu : Nat} {σ0 τ : tM} {v : Int32} {rc16 : Nat → Int32 → Int32 → Int32 → Int32 → Int32 → tM → Option ((Int32) × tM)} (C : tCx p s m args meth c yX8_needs.cls cX8_needs 7 (some .int) D aC b0 σ0) (htab : ∀ x ∈ c.exceptionTable.toList, False) (hin : meth.name = yX8_needs.name) (hrc16 : ∀ (x0 : Nat) (x1 : Int32) (x2 : Int32) (x3 : Int32) (x4 : Int32) (x5 : Int32) (ρ : tM), rc16 x0 x1 x2 x3 x4 x5 ρ = some (v, τ) → tX p l e s m args below meth c 7 2 47 D aC b0 σ0 (.inl (some (.int v))) τ 16 [(0, .ref (x0)), (1, .int (x1)), (2, .int (x2)), (3, .int (x3)), (4, .int (x4)), (5, .int (x5))] [] ρ) {x0 : Nat} {x1 : Int32} {x2 : Int32} {x3 : Int32} {x4 : Int32} {x5 : Int32} {σ : tM} (hm : J_X8_needs_39 b0 fu rc16 x0 x1 x2 x3 x4 x5 σ = some (v, τ)) : tX p l e s m args below meth c 7 2 47 D aC b0 σ0 (.inl (some (.int v))) τ 39 [(0, .ref (x0)), (1, .int (x1)), (2, .int (x2)), (3, .int (x3)), (4, .int (x4)), (5, .int (x5))] [] σ := by
  unfold J_X8_needs_39 at hm
  refine zx_iconst (v := 1) C dX8_needs_39 (by decide) ?_
  refine zx_goto C 44 dX8_needs_40 (by decide) ?_
  exact zx_lv [0, 1, 2, 3, 4, 5] [(0, .ref (x0)), (1, .int (x1)), (2, .int (x2)), (3, .int (x3)), (4, .int (x4)), (5, .int (x5))] rfl (j_X8_needs_44 C htab hin hrc16   hm)
set_option maxRecDepth 100000 in
set_option maxHeartbeats 1000000 in
theorem l_X8_needs_16 {p : Program} {l : Launch} {e : Env} {s : State} {m : MethodId} {args : Array Value} {below : List Frame} {meth : Method} {c : Code} {D : va_G} {aC : Nat → ClassId} {b0 fu : Nat} {σ0 τ : tM} {v : Int32}  (C : tCx p s m args meth c yX8_needs.cls cX8_needs 7 (some .int) D aC b0 σ0) (htab : ∀ x ∈ c.exceptionTable.toList, False) (hin : meth.name = yX8_needs.name)  : ∀ (n : Nat) (x0 : Nat) (x1 : Int32) (x2 : Int32) (x3 : Int32) (x4 : Int32) (x5 : Int32) (σ : tM), L_X8_needs_16 b0 fu  n x0 x1 x2 x3 x4 x5 σ = some (v, τ) → tX p l e s m args below meth c 7 2 47 D aC b0 σ0 (.inl (some (.int v))) τ 16 [(0, .ref (x0)), (1, .int (x1)), (2, .int (x2)), (3, .int (x3)), (4, .int (x4)), (5, .int (x5))] [] σ := by
  intro n
  induction n with
  | zero => intro x0 x1 x2 x3 x4 x5 σ hm; unfold L_X8_needs_16 at hm; cases hm
  | succ n ih =>
    intro x0 x1 x2 x3 x4 x5 σ hm
    unfold L_X8_needs_16 at hm
    obtain ⟨rc16, hrc⟩ : ∃ z, z = L_X8_needs_16 b0 fu  n := ⟨_, rfl⟩
    replace hm := ltb_e hm hrc
    rw [← hrc] at ih
    have hrc16 := ih
    clear ih hrc
    refine zx_iload C dX8_needs_16 5 rfl ?_
    refine zx_iload_n C dX8_needs_18 3 rfl ?_
    refine zx_icmp_gt C 129 dX8_needs_19 (by decide) (fun c2 => ?_) (fun c2 => ?_)
    · replace hm := ip_e hm c2
      refine zx_iload C dX8_needs_129 4 rfl ?_
      obtain ⟨rfl, rfl⟩ := ret_e hm
      exact zx_iret C rfl rfl rfl dX8_needs_131
    · replace hm := in_e hm c2
      refine zx_iload C dX8_needs_22 5 rfl ?_
      refine zx_iload_n C dX8_needs_24 2 rfl ?_
      refine zx_icmp_eq C 39 dX8_needs_25 (by decide) (fun c3 => ?_) (fun c3 => ?_)
      · replace hm := ip_e hm c3
        exact zx_lv [0, 1, 2, 3, 4, 5] [(0, .ref (x0)), (1, .int (x1)), (2, .int (x2)), (3, .int (x3)), (4, .int (x4)), (5, .int (x5))] rfl (j_X8_needs_39 C htab hin hrc16   hm)
      · replace hm := in_e hm c3
        refine zx_iload C dX8_needs_28 5 rfl ?_
        refine zx_bipush (v := 8) C dX8_needs_30 (by decide) ?_
        refine zx_isub C dX8_needs_32 ?_
        refine zx_bipush (v := 32) C dX8_needs_33 (by decide) ?_
        refine zx_irem C dX8_needs_35 (by decide) ?_
        refine zx_if_ne C 43 dX8_needs_36 (by decide) (fun c31 => ?_) (fun c31 => ?_)
        · replace hm := in_e hm c31
          refine zx_iconst (v := 0) C dX8_needs_43 (by decide) ?_
          exact zx_lv [0, 1, 2, 3, 4, 5] [(0, .ref (x0)), (1, .int (x1)), (2, .int (x2)), (3, .int (x3)), (4, .int (x4)), (5, .int (x5))] rfl (j_X8_needs_44 C htab hin hrc16   hm)
        · replace hm := ip_e hm c31
          exact zx_lv [0, 1, 2, 3, 4, 5] [(0, .ref (x0)), (1, .int (x1)), (2, .int (x2)), (3, .int (x3)), (4, .int (x4)), (5, .int (x5))] rfl (j_X8_needs_39 C htab hin hrc16   hm)
set_option maxRecDepth 100000 in
set_option maxHeartbeats 1000000 in
theorem c_X8_needs {l : Launch} {D : va_G} {aC : Nat → ClassId} {b0 fu : Nat} {a0 : Nat} {p0 : Int32} {p1 : Int32} {p2 : Int32} {σ τ : tM} {v : Int32} (hm : m_X8_needs b0 fu a0 p0 p1 p2 σ = some (v, τ)) : tMt l D aC b0 yX8_needs (Cond.code yX8_needs cX8_needs 7 (some .int)) 2 47 [.ref (a0), .int (p0), .int (p1), .int (p2)] σ (.inl (some (.int v))) τ := by
  unfold m_X8_needs at hm
  obtain ⟨hg, hm⟩ := grw_e hm
  refine tMt_of (n := 0) rfl (Nat.le_of_ble_eq_true rfl) hg ?_
  intro p e s m below meth c C htab hin
  refine zx_lv [0, 1, 2, 3] [(0, .ref (a0)), (1, .int (p0)), (2, .int (p1)), (3, .int (p2))] rfl ?_
  refine zx_iload_n C dX8_needs_0 3 rfl ?_
  refine zx_sipush (v := 1064) C dX8_needs_1 (by decide) ?_
  refine zx_icmp_lt C 10 dX8_needs_4 (by decide) (fun c1 => ?_) (fun c1 => ?_)
  · replace hm := ip_e hm c1
    refine zx_iconst (v := 0) C dX8_needs_10 (by decide) ?_
    refine zx_istore C [(4, .int (0)), (0, .ref (a0)), (1, .int (p0)), (2, .int (p1)), (3, .int (p2))] dX8_needs_11 (by decide) rfl ?_
    refine zx_iload_n C dX8_needs_13 3 rfl ?_
    refine zx_istore C [(5, .int (p1)), (4, .int (0)), (0, .ref (a0)), (1, .int (p0)), (2, .int (p1)), (3, .int (p2))] dX8_needs_14 (by decide) rfl ?_
    exact zx_lv [2, 3, 4, 5, 1, 0] [(0, .ref (a0)), (1, .int (p0)), (2, .int (p1)), (3, .int (p2)), (4, .int (0)), (5, .int (p1))] rfl (l_X8_needs_16 C htab hin  _ _ _ _ _ _ _ _ hm)
  · replace hm := in_e hm c1
    refine zx_ldc (v := 1000000) C W_4_174 dX8_needs_7 ?_
    obtain ⟨rfl, rfl⟩ := ret_e hm
    exact zx_iret C rfl rfl rfl dX8_needs_9
