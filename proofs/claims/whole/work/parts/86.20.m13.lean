abbrev cX2_loadBlock : ByteArray := prog_4_method_5_code
def yX2_loadBlock : MethodName := ⟨"SyncTree$Loader", "loadBlock", "(IJ)V"⟩
theorem Y_X2_loadBlock : tY yX2_loadBlock cX2_loadBlock 6 none 2 := ⟨W_6_165, W_1_6, ⟨by decide +kernel, by decide +kernel⟩, by decide +kernel⟩
theorem dX2_loadBlock_0 : decode cX2_loadBlock 0 = .ok (.lload_n 2, 1) := by decide +kernel
theorem dX2_loadBlock_1 : decode cX2_loadBlock 1 = .ok (.lconst 0, 1) := by decide +kernel
theorem dX2_loadBlock_2 : decode cX2_loadBlock 2 = .ok (.lcmp, 1) := by decide +kernel
theorem dX2_loadBlock_3 : decode cX2_loadBlock 3 = .ok (.ifCond .ne 4, 3) := by decide +kernel
theorem dX2_loadBlock_6 : decode cX2_loadBlock 6 = .ok (.return_, 1) := by decide +kernel
theorem dX2_loadBlock_7 : decode cX2_loadBlock 7 = .ok (.aload_n 0, 1) := by decide +kernel
theorem dX2_loadBlock_8 : decode cX2_loadBlock 8 = .ok (.getfield 19, 3) := by decide +kernel
theorem dX2_loadBlock_11 : decode cX2_loadBlock 11 = .ok (.iload_n 1, 1) := by decide +kernel
theorem dX2_loadBlock_12 : decode cX2_loadBlock 12 = .ok (.invokevirtual 42, 3) := by decide +kernel
theorem dX2_loadBlock_15 : decode cX2_loadBlock 15 = .ok (.iconst 2, 1) := by decide +kernel
theorem dX2_loadBlock_16 : decode cX2_loadBlock 16 = .ok (.if_icmp .ne 10, 3) := by decide +kernel
theorem dX2_loadBlock_19 : decode cX2_loadBlock 19 = .ok (.aload_n 0, 1) := by decide +kernel
theorem dX2_loadBlock_20 : decode cX2_loadBlock 20 = .ok (.iload_n 1, 1) := by decide +kernel
theorem dX2_loadBlock_21 : decode cX2_loadBlock 21 = .ok (.lload_n 2, 1) := by decide +kernel
theorem dX2_loadBlock_22 : decode cX2_loadBlock 22 = .ok (.invokevirtual 63, 3) := by decide +kernel
theorem dX2_loadBlock_25 : decode cX2_loadBlock 25 = .ok (.return_, 1) := by decide +kernel
theorem dX2_loadBlock_26 : decode cX2_loadBlock 26 = .ok (.lload_n 2, 1) := by decide +kernel
theorem dX2_loadBlock_27 : decode cX2_loadBlock 27 = .ok (.invokestatic 66, 3) := by decide +kernel
theorem dX2_loadBlock_30 : decode cX2_loadBlock 30 = .ok (.istore 4, 2) := by decide +kernel
theorem dX2_loadBlock_32 : decode cX2_loadBlock 32 = .ok (.lload_n 2, 1) := by decide +kernel
theorem dX2_loadBlock_33 : decode cX2_loadBlock 33 = .ok (.invokestatic 73, 3) := by decide +kernel
theorem dX2_loadBlock_36 : decode cX2_loadBlock 36 = .ok (.istore 5, 2) := by decide +kernel
theorem dX2_loadBlock_38 : decode cX2_loadBlock 38 = .ok (.aload_n 0, 1) := by decide +kernel
theorem dX2_loadBlock_39 : decode cX2_loadBlock 39 = .ok (.getfield 15, 3) := by decide +kernel
theorem dX2_loadBlock_42 : decode cX2_loadBlock 42 = .ok (.iload 4, 2) := by decide +kernel
theorem dX2_loadBlock_44 : decode cX2_loadBlock 44 = .ok (.iload 5, 2) := by decide +kernel
theorem dX2_loadBlock_46 : decode cX2_loadBlock 46 = .ok (.iload_n 1, 1) := by decide +kernel
theorem dX2_loadBlock_47 : decode cX2_loadBlock 47 = .ok (.invokevirtual 76, 3) := by decide +kernel
theorem dX2_loadBlock_50 : decode cX2_loadBlock 50 = .ok (.aload_n 0, 1) := by decide +kernel
theorem dX2_loadBlock_51 : decode cX2_loadBlock 51 = .ok (.getfield 15, 3) := by decide +kernel
theorem dX2_loadBlock_54 : decode cX2_loadBlock 54 = .ok (.iload 4, 2) := by decide +kernel
theorem dX2_loadBlock_56 : decode cX2_loadBlock 56 = .ok (.aload_n 0, 1) := by decide +kernel
theorem dX2_loadBlock_57 : decode cX2_loadBlock 57 = .ok (.getfield 9, 3) := by decide +kernel
theorem dX2_loadBlock_60 : decode cX2_loadBlock 60 = .ok (.aload_n 0, 1) := by decide +kernel
theorem dX2_loadBlock_61 : decode cX2_loadBlock 61 = .ok (.getfield 15, 3) := by decide +kernel
theorem dX2_loadBlock_64 : decode cX2_loadBlock 64 = .ok (.iload 4, 2) := by decide +kernel
theorem dX2_loadBlock_66 : decode cX2_loadBlock 66 = .ok (.invokevirtual 80, 3) := by decide +kernel
theorem dX2_loadBlock_69 : decode cX2_loadBlock 69 = .ok (.iload 5, 2) := by decide +kernel
theorem dX2_loadBlock_71 : decode cX2_loadBlock 71 = .ok (.invokevirtual 83, 3) := by decide +kernel
theorem dX2_loadBlock_74 : decode cX2_loadBlock 74 = .ok (.invokevirtual 33, 3) := by decide +kernel
theorem dX2_loadBlock_77 : decode cX2_loadBlock 77 = .ok (.return_, 1) := by decide +kernel
set_option maxRecDepth 100000 in
set_option maxHeartbeats 1000000 in
theorem c_X2_loadBlock {l : Launch} {D : va_G} {aC : Nat → ClassId} {b0 fu : Nat} {a0 : Nat} {p0 : Int32} {p1 : Int64} {σ τ : tM} {v : Unit} (hm : m_X2_loadBlock b0 fu a0 p0 p1 σ = some (v, τ)) : tMt l D aC b0 yX2_loadBlock (Cond.code yX2_loadBlock cX2_loadBlock 6 none) 3 73 [.ref (a0), .int (p0), .long (p1)] σ (.inl none) τ := by
  unfold m_X2_loadBlock at hm
  obtain ⟨hg, hm⟩ := grw_e hm
  refine tMt_of (n := 0) rfl (Nat.le_of_ble_eq_true rfl) hg ?_
  intro p e s m below meth c C htab hin
  refine zx_lv [0, 1, 2] [(0, .ref (a0)), (1, .int (p0)), (2, .long (p1))] rfl ?_
  refine zx_lload_n C dX2_loadBlock_0 2 rfl ?_
  refine zx_lconst (v := 0) C dX2_loadBlock_1 (by decide) ?_
  refine zx_lcmp C dX2_loadBlock_2 ?_
  refine zx_if_ne C 7 dX2_loadBlock_3 (by decide) (fun c1 => ?_) (fun c1 => ?_)
  · replace hm := in_e hm c1
    refine zx_aload_n C dX2_loadBlock_7 0 rfl ?_
    obtain ⟨k2, i3, hm⟩ := ckO_e hm
    obtain ⟨a4, h5, hm⟩ := osm_e hm
    refine zx_get (j := 2) C tC_2 k2 i3 ⟨by decide, Or.inl W_2_3⟩ dX2_loadBlock_8 (.ref a4) (rf_s h5) ?_
    refine zx_iload_n C dX2_loadBlock_11 1 rfl ?_
    obtain ⟨k6, i7, hm⟩ := ckO_e hm
    obtain ⟨v8, ρ9, h10, hm⟩ := cll_e hm
    refine zx_callV (σ := σ) C [.int (p0)] tC_8 k6 i7 Y_X8_kind W_6_156 W_3_80 W_3_81 (c_X8_kind h10) (by decide) (by decide) rfl (Nat.le_of_ble_eq_true rfl) dX2_loadBlock_12 rfl ?_
    refine zx_iconst (v := 2) C dX2_loadBlock_15 (by decide) ?_
    refine zx_icmp_ne C 26 dX2_loadBlock_16 (by decide) (fun c11 => ?_) (fun c11 => ?_)
    · replace hm := in_e hm c11
      refine zx_lload_n C dX2_loadBlock_26 2 rfl ?_
      obtain ⟨v12, ρ13, h14, hm⟩ := cll_e hm
      refine zx_callS (σ := ρ9) C [.long (p1)] Y_X8_cellOf W_6_170 W_4_118 (c_X8_cellOf h14) (by decide) (by decide) rfl (Nat.le_of_ble_eq_true rfl) dX2_loadBlock_27 rfl ?_
      refine zx_istore C [(4, .int (v12)), (0, .ref (a0)), (1, .int (p0)), (2, .long (p1))] dX2_loadBlock_30 (by decide) rfl ?_
      refine zx_lload_n C dX2_loadBlock_32 3 rfl ?_
      obtain ⟨v15, ρ16, h17, hm⟩ := cll_e hm
      refine zx_callS (σ := ρ13) C [.long (p1)] Y_X8_birthOf W_6_171 W_6_172 (c_X8_birthOf h17) (by decide) (by decide) rfl (Nat.le_of_ble_eq_true rfl) dX2_loadBlock_33 rfl ?_
      refine zx_istore C [(5, .int (v15)), (4, .int (v12)), (0, .ref (a0)), (1, .int (p0)), (2, .long (p1))] dX2_loadBlock_36 (by decide) rfl ?_
      refine zx_aload_n C dX2_loadBlock_38 2 rfl ?_
      obtain ⟨k18, i19, hm⟩ := ckO_e hm
      obtain ⟨a20, h21, hm⟩ := osm_e hm
      refine zx_get (j := 1) C tC_2 k18 i19 ⟨by decide, Or.inl W_2_2⟩ dX2_loadBlock_39 (.ref a20) (rf_s h21) ?_
      refine zx_iload C dX2_loadBlock_42 1 rfl ?_
      refine zx_iload C dX2_loadBlock_44 0 rfl ?_
      refine zx_iload_n C dX2_loadBlock_46 3 rfl ?_
      obtain ⟨k22, i23, hm⟩ := ckO_e hm
      obtain ⟨v24, ρ25, h26, hm⟩ := cll_e hm
      refine zx_callV (σ := ρ16) C [.int (v12), .int (v15), .int (p0)] tC_5 k22 i23 Y_X5_adopt W_6_174 W_4_208 W_4_209 (c_X5_adopt h26) (by decide) (by decide) rfl (Nat.le_of_ble_eq_true rfl) dX2_loadBlock_47 rfl ?_
      refine zx_aload_n C dX2_loadBlock_50 2 rfl ?_
      obtain ⟨k27, i28, hm⟩ := ckO_e hm
      obtain ⟨a29, h30, hm⟩ := osm_e hm
      refine zx_get (j := 1) C tC_2 k27 i28 ⟨by decide, Or.inl W_2_2⟩ dX2_loadBlock_51 (.ref a29) (rf_s h30) ?_
      refine zx_iload C dX2_loadBlock_54 1 rfl ?_
      refine zx_aload_n C dX2_loadBlock_56 2 rfl ?_
      obtain ⟨a31, h32, hm⟩ := osm_e hm
      refine zx_get (j := 0) C tC_2 k27 i28 ⟨by decide, Or.inl W_2_1⟩ dX2_loadBlock_57 (.ref a31) (rf_s h32) ?_
      refine zx_aload_n C dX2_loadBlock_60 2 rfl ?_
      obtain ⟨a33, h34, hm⟩ := osm_e hm
      refine zx_get (j := 1) C tC_2 k27 i28 ⟨by decide, Or.inl W_2_2⟩ dX2_loadBlock_61 (.ref a33) (rf_s h34) ?_
      refine zx_iload C dX2_loadBlock_64 1 rfl ?_
      obtain ⟨k35, i36, hm⟩ := ckO_e hm
      obtain ⟨v37, ρ38, h39, hm⟩ := cll_e hm
      refine zx_callV (σ := ρ25) C [.int (v12)] tC_5 k35 i36 Y_X5_numberOf W_6_175 W_4_6 W_4_7 (c_X5_numberOf h39) (by decide) (by decide) rfl (Nat.le_of_ble_eq_true rfl) dX2_loadBlock_66 rfl ?_
      refine zx_iload C dX2_loadBlock_69 0 rfl ?_
      obtain ⟨k40, i41, hm⟩ := ckO_e hm
      obtain ⟨v42, ρ43, h44, hm⟩ := cll_e hm
      rcases omt_e hm with ⟨a45, h46, hm⟩ | ⟨h46, hm⟩
      · subst h46
        refine zx_callV (σ := ρ38) C [.int (v37), .int (v15)] tC_0 k40 i41 Y_X0_keptSince W_6_176 W_6_177 W_6_178 (c_X0_keptSince h44) (by decide) (by decide) rfl (Nat.le_of_ble_eq_true rfl) dX2_loadBlock_71 rfl ?_
        obtain ⟨k47, i48, hm⟩ := ckO_e hm
        obtain ⟨v49, ρ50, h51, hm⟩ := cll_e hm
        refine zx_callV (σ := ρ43) C [.int (v12), va_rf (some (a45))] tC_5 k47 i48 Y_X5_load W_6_154 W_2_130 W_2_131 (c_X5_load h51) (by decide) (by decide) rfl (Nat.le_of_ble_eq_true rfl) dX2_loadBlock_74 rfl ?_
        obtain ⟨rfl, rfl⟩ := ret_e hm
        exact zx_vret C rfl rfl rfl dX2_loadBlock_77
      · subst h46
        refine zx_callV (σ := ρ38) C [.int (v37), .int (v15)] tC_0 k40 i41 Y_X0_keptSince W_6_176 W_6_177 W_6_178 (c_X0_keptSince h44) (by decide) (by decide) rfl (Nat.le_of_ble_eq_true rfl) dX2_loadBlock_71 rfl ?_
        obtain ⟨k52, i53, hm⟩ := ckO_e hm
        obtain ⟨v54, ρ55, h56, hm⟩ := cll_e hm
        refine zx_callV (σ := ρ43) C [.int (v12), va_rf (none)] tC_5 k52 i53 Y_X5_load W_6_154 W_2_130 W_2_131 (c_X5_load h56) (by decide) (by decide) rfl (Nat.le_of_ble_eq_true rfl) dX2_loadBlock_74 rfl ?_
        obtain ⟨rfl, rfl⟩ := ret_e hm
        exact zx_vret C rfl rfl rfl dX2_loadBlock_77
    · replace hm := ip_e hm c11
      refine zx_aload_n C dX2_loadBlock_19 0 rfl ?_
      refine zx_iload_n C dX2_loadBlock_20 1 rfl ?_
      refine zx_lload_n C dX2_loadBlock_21 2 rfl ?_
      obtain ⟨k57, i58, hm⟩ := ckO_e hm
      obtain ⟨v59, ρ60, h61, hm⟩ := cll_e hm
      refine zx_callV (σ := ρ9) C [.int (p0), .long (p1)] tC_2 k57 i58 Y_X2_loadMeta W_6_166 W_6_168 Wp_52 (c_X2_loadMeta h61) (by decide) (by decide) rfl (Nat.le_of_ble_eq_true rfl) dX2_loadBlock_22 rfl ?_
      obtain ⟨rfl, rfl⟩ := ret_e hm
      exact zx_vret C rfl rfl rfl dX2_loadBlock_25
  · replace hm := ip_e hm c1
    obtain ⟨rfl, rfl⟩ := ret_e hm
    exact zx_vret C rfl rfl rfl dX2_loadBlock_6
abbrev cX5_reset : ByteArray := prog_7_method_2_code
def yX5_reset : MethodName := ⟨"SyncTree$Space", "reset", "(II)V"⟩
theorem Y_X5_reset : tY yX5_reset cX5_reset 4 none 2 := ⟨W_2_114, W_1_3, ⟨by decide +kernel, by decide +kernel⟩, by decide +kernel⟩
theorem dX5_reset_0 : decode cX5_reset 0 = .ok (.aload_n 0, 1) := by decide +kernel
theorem dX5_reset_1 : decode cX5_reset 1 = .ok (.invokevirtual 36, 3) := by decide +kernel
theorem dX5_reset_4 : decode cX5_reset 4 = .ok (.aload_n 0, 1) := by decide +kernel
theorem dX5_reset_5 : decode cX5_reset 5 = .ok (.bipush 34, 2) := by decide +kernel
theorem dX5_reset_7 : decode cX5_reset 7 = .ok (.iconst 0, 1) := by decide +kernel
theorem dX5_reset_8 : decode cX5_reset 8 = .ok (.iload_n 2, 1) := by decide +kernel
theorem dX5_reset_9 : decode cX5_reset 9 = .ok (.sipush 2000, 3) := by decide +kernel
theorem dX5_reset_12 : decode cX5_reset 12 = .ok (.invokestatic 39, 3) := by decide +kernel
theorem dX5_reset_15 : decode cX5_reset 15 = .ok (.invokestatic 45, 3) := by decide +kernel
theorem dX5_reset_18 : decode cX5_reset 18 = .ok (.iadd, 1) := by decide +kernel
theorem dX5_reset_19 : decode cX5_reset 19 = .ok (.putfield 48, 3) := by decide +kernel
theorem dX5_reset_22 : decode cX5_reset 22 = .ok (.aload_n 0, 1) := by decide +kernel
theorem dX5_reset_23 : decode cX5_reset 23 = .ok (.iload_n 1, 1) := by decide +kernel
theorem dX5_reset_24 : decode cX5_reset 24 = .ok (.putfield 52, 3) := by decide +kernel
theorem dX5_reset_27 : decode cX5_reset 27 = .ok (.aload_n 0, 1) := by decide +kernel
theorem dX5_reset_28 : decode cX5_reset 28 = .ok (.iconst 0, 1) := by decide +kernel
theorem dX5_reset_29 : decode cX5_reset 29 = .ok (.putfield 55, 3) := by decide +kernel
theorem dX5_reset_32 : decode cX5_reset 32 = .ok (.iconst 1, 1) := by decide +kernel
theorem dX5_reset_33 : decode cX5_reset 33 = .ok (.istore_n 3, 1) := by decide +kernel
theorem dX5_reset_34 : decode cX5_reset 34 = .ok (.iload_n 3, 1) := by decide +kernel
theorem dX5_reset_35 : decode cX5_reset 35 = .ok (.bipush 34, 2) := by decide +kernel
theorem dX5_reset_37 : decode cX5_reset 37 = .ok (.if_icmp .ge 15, 3) := by decide +kernel
theorem dX5_reset_40 : decode cX5_reset 40 = .ok (.aload_n 0, 1) := by decide +kernel
theorem dX5_reset_41 : decode cX5_reset 41 = .ok (.iload_n 3, 1) := by decide +kernel
theorem dX5_reset_42 : decode cX5_reset 42 = .ok (.aconst_null, 1) := by decide +kernel
theorem dX5_reset_43 : decode cX5_reset 43 = .ok (.invokevirtual 58, 3) := by decide +kernel
theorem dX5_reset_46 : decode cX5_reset 46 = .ok (.iinc 3 1, 3) := by decide +kernel
theorem dX5_reset_49 : decode cX5_reset 49 = .ok (.goto (-15), 3) := by decide +kernel
theorem dX5_reset_52 : decode cX5_reset 52 = .ok (.aload_n 0, 1) := by decide +kernel
theorem dX5_reset_53 : decode cX5_reset 53 = .ok (.invokevirtual 62, 3) := by decide +kernel
theorem dX5_reset_56 : decode cX5_reset 56 = .ok (.return_, 1) := by decide +kernel
set_option maxRecDepth 100000 in
set_option maxHeartbeats 1000000 in
theorem l_X5_reset_34 {p : Program} {l : Launch} {e : Env} {s : State} {m : MethodId} {args : Array Value} {below : List Frame} {meth : Method} {c : Code} {D : va_G} {aC : Nat → ClassId} {b0 fu : Nat} {σ0 τ : tM} {v : Unit}  (C : tCx p l s m args meth c yX5_reset.cls cX5_reset 4 none D aC b0 σ0) (htab : ∀ x ∈ c.exceptionTable.toList, False) (hin : meth.name = yX5_reset.name)  : ∀ (n : Nat) (x0 : Nat) (x3 : Int32) (σ : tM), L_X5_reset_34 b0 fu  n x0 x3 σ = some (v, τ) → tX p l e s m args below meth c 4 3 66 D aC b0 σ0 (.inl none) τ 34 [(0, .ref (x0)), (3, .int (x3))] [] σ := by
  intro n
  induction n with
  | zero => intro x0 x3 σ hm; unfold L_X5_reset_34 at hm; cases hm
  | succ n ih =>
    intro x0 x3 σ hm
    unfold L_X5_reset_34 at hm
    obtain ⟨rc34, hrc⟩ : ∃ z, z = L_X5_reset_34 b0 fu  n := ⟨_, rfl⟩
    replace hm := ltb_e hm hrc
    rw [← hrc] at ih
    have hrc34 := ih
    clear ih hrc
    refine zx_iload_n C dX5_reset_34 1 rfl ?_
    refine zx_bipush (v := 34) C dX5_reset_35 (by decide) ?_
    refine zx_icmp_ge C 52 dX5_reset_37 (by decide) (fun c8 => ?_) (fun c8 => ?_)
    · replace hm := ip_e hm c8
      refine zx_aload_n C dX5_reset_52 0 rfl ?_
      obtain ⟨k9, i10, hm⟩ := ckO_e hm
      obtain ⟨v11, ρ12, h13, hm⟩ := cll_e hm
      refine zx_callV (σ := σ) C [] tC_5 k9 i10 Y_X5_readMap W_2_136 W_2_137 W_2_138 (c_X5_readMap h13) (by decide) (by decide) rfl (Nat.le_of_ble_eq_true rfl) dX5_reset_53 rfl ?_
      obtain ⟨rfl, rfl⟩ := ret_e hm
      exact zx_vret C rfl rfl rfl dX5_reset_56
    · replace hm := in_e hm c8
      refine zx_aload_n C dX5_reset_40 0 rfl ?_
      refine zx_iload_n C dX5_reset_41 1 rfl ?_
      refine zx_null C dX5_reset_42 ?_
      obtain ⟨k14, i15, hm⟩ := ckO_e hm
      obtain ⟨v16, ρ17, h18, hm⟩ := cll_e hm
      refine zx_callV (σ := σ) C [.int (x3), va_rf (none)] tC_5 k14 i15 Y_X5_load W_2_129 W_2_130 W_2_131 (c_X5_load h18) (by decide) (by decide) rfl (Nat.le_of_ble_eq_true rfl) dX5_reset_43 rfl ?_
      obtain ⟨y19, hy19⟩ : ∃ z : Int32, z = (x3) + Int32.ofInt 1 := ⟨_, rfl⟩
      replace hm := ltb_e hm hy19
      refine zx_iinc C [(3, .int (y19)), (0, .ref (x0))] dX5_reset_46 1 rfl hy19.symm (by decide) rfl ?_
      refine zx_goto C 34 dX5_reset_49 (by decide) ?_
      exact zx_lv [1, 0] [(0, .ref (x0)), (3, .int (y19))] rfl (hrc34 _ _ _ hm)
set_option maxRecDepth 100000 in
set_option maxHeartbeats 1000000 in
theorem c_X5_reset {l : Launch} {D : va_G} {aC : Nat → ClassId} {b0 fu : Nat} {a0 : Nat} {p0 : Int32} {p1 : Int32} {σ τ : tM} {v : Unit} (hm : m_X5_reset b0 fu a0 p0 p1 σ = some (v, τ)) : tMt l D aC b0 yX5_reset (Cond.code yX5_reset cX5_reset 4 none) 3 66 [.ref (a0), .int (p0), .int (p1)] σ (.inl none) τ := by
  unfold m_X5_reset at hm
  obtain ⟨hg, hm⟩ := grw_e hm
  refine tMt_of (n := 0) rfl (Nat.le_of_ble_eq_true rfl) hg ?_
  intro p e s m below meth c C htab hin
  refine zx_lv [0, 1, 2] [(0, .ref (a0)), (1, .int (p0)), (2, .int (p1))] rfl ?_
  refine zx_aload_n C dX5_reset_0 0 rfl ?_
  obtain ⟨k1, i2, hm⟩ := ckO_e hm
  obtain ⟨v3, ρ4, h5, hm⟩ := cll_e hm
  refine zx_callV (σ := σ) C [] tC_5 k1 i2 Y_X5_forgetMarks W_2_115 W_2_117 Wp_4 (c_X5_forgetMarks h5) (by decide) (by decide) rfl (Nat.le_of_ble_eq_true rfl) dX5_reset_1 rfl ?_
  refine zx_aload_n C dX5_reset_4 0 rfl ?_
  refine zx_bipush (v := 34) C dX5_reset_5 (by decide) ?_
  refine zx_iconst (v := 0) C dX5_reset_7 (by decide) ?_
  refine zx_iload_n C dX5_reset_8 2 rfl ?_
  refine zx_sipush (v := 2000) C dX5_reset_9 (by decide) ?_
  refine zx_min C W_2_127 W_2_106 W_1_10 W_2_107 (by decide) (by decide) (Nat.le_of_ble_eq_true rfl) dX5_reset_12 ?_
  refine zx_max C W_2_128 W_2_109 W_1_10 W_2_110 (by decide) (by decide) (Nat.le_of_ble_eq_true rfl) dX5_reset_15 ?_
  refine zx_iadd C dX5_reset_18 ?_
  obtain ⟨k6, i7, hm⟩ := ckO_e hm
  refine zx_put (j := 7) (ρ := sI (ρ4) (a0) 7 ((34) + ((if ((0 : Int32)) < ((if ((2000 : Int32)) < (p1) then (2000) else (p1) : Int32)) then ((if ((2000 : Int32)) < (p1) then (2000) else (p1) : Int32)) else (0) : Int32)))) C tC_5 k6 i7 ⟨by decide, Or.inl W_1_104⟩ rfl rfl rfl (sI_ok (fun _ => rfl)) dX5_reset_19 ?_
  refine zx_aload_n C dX5_reset_22 0 rfl ?_
  refine zx_iload_n C dX5_reset_23 1 rfl ?_
  refine zx_put (j := 8) (ρ := sI (sI (ρ4) (a0) 7 ((34) + ((if ((0 : Int32)) < ((if ((2000 : Int32)) < (p1) then (2000) else (p1) : Int32)) then ((if ((2000 : Int32)) < (p1) then (2000) else (p1) : Int32)) else (0) : Int32)))) (a0) 8 (p0)) C tC_5 k6 i7 ⟨by decide, Or.inl W_1_106⟩ rfl rfl rfl (sI_ok (fun _ => rfl)) dX5_reset_24 ?_
  refine zx_aload_n C dX5_reset_27 0 rfl ?_
  refine zx_iconst (v := 0) C dX5_reset_28 (by decide) ?_
  refine zx_put (j := 15) (ρ := sI (sI (sI (ρ4) (a0) 7 ((34) + ((if ((0 : Int32)) < ((if ((2000 : Int32)) < (p1) then (2000) else (p1) : Int32)) then ((if ((2000 : Int32)) < (p1) then (2000) else (p1) : Int32)) else (0) : Int32)))) (a0) 8 (p0)) (a0) 15 (0)) C tC_5 k6 i7 ⟨by decide, Or.inl W_1_118⟩ rfl rfl rfl (sI_ok (fun _ => rfl)) dX5_reset_29 ?_
  refine zx_iconst (v := 1) C dX5_reset_32 (by decide) ?_
  refine zx_istore_n C [(3, .int (1)), (0, .ref (a0)), (1, .int (p0)), (2, .int (p1))] dX5_reset_33 rfl (by decide) rfl ?_
  exact zx_lv [1, 0] [(0, .ref (a0)), (3, .int (1))] rfl (l_X5_reset_34 C htab hin  _ _ _ _ hm)
abbrev cX8_drop : ByteArray := prog_10_method_30_code
def yX8_drop : MethodName := ⟨"SyncTree$Tree", "drop", "(II)V"⟩
theorem Y_X8_drop : tY yX8_drop cX8_drop 6 none 2 := ⟨W_5_45, W_1_4, ⟨by decide +kernel, by decide +kernel⟩, by decide +kernel⟩
theorem dX8_drop_0 : decode cX8_drop 0 = .ok (.aload_n 0, 1) := by decide +kernel
theorem dX8_drop_1 : decode cX8_drop 1 = .ok (.iload_n 1, 1) := by decide +kernel
theorem dX8_drop_2 : decode cX8_drop 2 = .ok (.iload_n 2, 1) := by decide +kernel
theorem dX8_drop_3 : decode cX8_drop 3 = .ok (.invokevirtual 112, 3) := by decide +kernel
theorem dX8_drop_6 : decode cX8_drop 6 = .ok (.lstore_n 3, 1) := by decide +kernel
theorem dX8_drop_7 : decode cX8_drop 7 = .ok (.lload_n 3, 1) := by decide +kernel
theorem dX8_drop_8 : decode cX8_drop 8 = .ok (.lconst 0, 1) := by decide +kernel
theorem dX8_drop_9 : decode cX8_drop 9 = .ok (.lcmp, 1) := by decide +kernel
theorem dX8_drop_10 : decode cX8_drop 10 = .ok (.ifCond .ne 4, 3) := by decide +kernel
theorem dX8_drop_13 : decode cX8_drop 13 = .ok (.return_, 1) := by decide +kernel
theorem dX8_drop_14 : decode cX8_drop 14 = .ok (.aload_n 0, 1) := by decide +kernel
theorem dX8_drop_15 : decode cX8_drop 15 = .ok (.iload_n 1, 1) := by decide +kernel
theorem dX8_drop_16 : decode cX8_drop 16 = .ok (.iload_n 2, 1) := by decide +kernel
theorem dX8_drop_17 : decode cX8_drop 17 = .ok (.lconst 0, 1) := by decide +kernel
theorem dX8_drop_18 : decode cX8_drop 18 = .ok (.invokevirtual 119, 3) := by decide +kernel
theorem dX8_drop_21 : decode cX8_drop 21 = .ok (.aload_n 0, 1) := by decide +kernel
theorem dX8_drop_22 : decode cX8_drop 22 = .ok (.getfield 15, 3) := by decide +kernel
theorem dX8_drop_25 : decode cX8_drop 25 = .ok (.lload_n 3, 1) := by decide +kernel
theorem dX8_drop_26 : decode cX8_drop 26 = .ok (.invokestatic 104, 3) := by decide +kernel
theorem dX8_drop_29 : decode cX8_drop 29 = .ok (.aload_n 0, 1) := by decide +kernel
theorem dX8_drop_30 : decode cX8_drop 30 = .ok (.iload_n 1, 1) := by decide +kernel
theorem dX8_drop_31 : decode cX8_drop 31 = .ok (.invokevirtual 40, 3) := by decide +kernel
theorem dX8_drop_34 : decode cX8_drop 34 = .ok (.iconst 2, 1) := by decide +kernel
theorem dX8_drop_35 : decode cX8_drop 35 = .ok (.if_icmp .ne 7, 3) := by decide +kernel
theorem dX8_drop_38 : decode cX8_drop 38 = .ok (.iconst 1, 1) := by decide +kernel
theorem dX8_drop_39 : decode cX8_drop 39 = .ok (.goto 4, 3) := by decide +kernel
theorem dX8_drop_42 : decode cX8_drop 42 = .ok (.iconst 0, 1) := by decide +kernel
theorem dX8_drop_43 : decode cX8_drop 43 = .ok (.invokevirtual 122, 3) := by decide +kernel
theorem dX8_drop_46 : decode cX8_drop 46 = .ok (.aload_n 0, 1) := by decide +kernel
theorem dX8_drop_47 : decode cX8_drop 47 = .ok (.iload_n 1, 1) := by decide +kernel
theorem dX8_drop_48 : decode cX8_drop 48 = .ok (.iconst 1, 1) := by decide +kernel
theorem dX8_drop_49 : decode cX8_drop 49 = .ok (.invokevirtual 63, 3) := by decide +kernel
theorem dX8_drop_52 : decode cX8_drop 52 = .ok (.iload_n 2, 1) := by decide +kernel
theorem dX8_drop_53 : decode cX8_drop 53 = .ok (.bipush 40, 2) := by decide +kernel
theorem dX8_drop_55 : decode cX8_drop 55 = .ok (.if_icmp .lt 72, 3) := by decide +kernel
theorem dX8_drop_58 : decode cX8_drop 58 = .ok (.aload_n 0, 1) := by decide +kernel
theorem dX8_drop_59 : decode cX8_drop 59 = .ok (.iload_n 1, 1) := by decide +kernel
theorem dX8_drop_60 : decode cX8_drop 60 = .ok (.iload_n 2, 1) := by decide +kernel
theorem dX8_drop_61 : decode cX8_drop 61 = .ok (.invokevirtual 101, 3) := by decide +kernel
theorem dX8_drop_64 : decode cX8_drop 64 = .ok (.invokestatic 104, 3) := by decide +kernel
theorem dX8_drop_67 : decode cX8_drop 67 = .ok (.istore 5, 2) := by decide +kernel
theorem dX8_drop_69 : decode cX8_drop 69 = .ok (.aload_n 0, 1) := by decide +kernel
theorem dX8_drop_70 : decode cX8_drop 70 = .ok (.getfield 15, 3) := by decide +kernel
theorem dX8_drop_73 : decode cX8_drop 73 = .ok (.iload 5, 2) := by decide +kernel
theorem dX8_drop_75 : decode cX8_drop 75 = .ok (.iconst 0, 1) := by decide +kernel
theorem dX8_drop_76 : decode cX8_drop 76 = .ok (.invokevirtual 126, 3) := by decide +kernel
theorem dX8_drop_79 : decode cX8_drop 79 = .ok (.ifCond .eq 45, 3) := by decide +kernel
theorem dX8_drop_82 : decode cX8_drop 82 = .ok (.aload_n 0, 1) := by decide +kernel
theorem dX8_drop_83 : decode cX8_drop 83 = .ok (.getfield 15, 3) := by decide +kernel
theorem dX8_drop_86 : decode cX8_drop 86 = .ok (.aload_n 0, 1) := by decide +kernel
theorem dX8_drop_87 : decode cX8_drop 87 = .ok (.iload_n 1, 1) := by decide +kernel
theorem dX8_drop_88 : decode cX8_drop 88 = .ok (.bipush 10, 2) := by decide +kernel
theorem dX8_drop_90 : decode cX8_drop 90 = .ok (.invokevirtual 30, 3) := by decide +kernel
theorem dX8_drop_93 : decode cX8_drop 93 = .ok (.invokestatic 104, 3) := by decide +kernel
theorem dX8_drop_96 : decode cX8_drop 96 = .ok (.iload_n 2, 1) := by decide +kernel
theorem dX8_drop_97 : decode cX8_drop 97 = .ok (.bipush 40, 2) := by decide +kernel
theorem dX8_drop_99 : decode cX8_drop 99 = .ok (.isub, 1) := by decide +kernel
theorem dX8_drop_100 : decode cX8_drop 100 = .ok (.bipush 32, 2) := by decide +kernel
theorem dX8_drop_102 : decode cX8_drop 102 = .ok (.idiv, 1) := by decide +kernel
theorem dX8_drop_103 : decode cX8_drop 103 = .ok (.lconst 0, 1) := by decide +kernel
theorem dX8_drop_104 : decode cX8_drop 104 = .ok (.invokevirtual 108, 3) := by decide +kernel
theorem dX8_drop_107 : decode cX8_drop 107 = .ok (.aload_n 0, 1) := by decide +kernel
theorem dX8_drop_108 : decode cX8_drop 108 = .ok (.getfield 15, 3) := by decide +kernel
theorem dX8_drop_111 : decode cX8_drop 111 = .ok (.iload 5, 2) := by decide +kernel
theorem dX8_drop_113 : decode cX8_drop 113 = .ok (.iconst 1, 1) := by decide +kernel
theorem dX8_drop_114 : decode cX8_drop 114 = .ok (.invokevirtual 122, 3) := by decide +kernel
theorem dX8_drop_117 : decode cX8_drop 117 = .ok (.aload_n 0, 1) := by decide +kernel
theorem dX8_drop_118 : decode cX8_drop 118 = .ok (.iload_n 1, 1) := by decide +kernel
theorem dX8_drop_119 : decode cX8_drop 119 = .ok (.bipush 10, 2) := by decide +kernel
theorem dX8_drop_121 : decode cX8_drop 121 = .ok (.invokevirtual 130, 3) := by decide +kernel
theorem dX8_drop_124 : decode cX8_drop 124 = .ok (.goto 16, 3) := by decide +kernel
theorem dX8_drop_127 : decode cX8_drop 127 = .ok (.iload_n 2, 1) := by decide +kernel
theorem dX8_drop_128 : decode cX8_drop 128 = .ok (.bipush 8, 2) := by decide +kernel
theorem dX8_drop_130 : decode cX8_drop 130 = .ok (.if_icmp .lt 10, 3) := by decide +kernel
theorem dX8_drop_133 : decode cX8_drop 133 = .ok (.aload_n 0, 1) := by decide +kernel
theorem dX8_drop_134 : decode cX8_drop 134 = .ok (.iload_n 1, 1) := by decide +kernel
theorem dX8_drop_135 : decode cX8_drop 135 = .ok (.bipush 9, 2) := by decide +kernel
theorem dX8_drop_137 : decode cX8_drop 137 = .ok (.invokevirtual 130, 3) := by decide +kernel
theorem dX8_drop_140 : decode cX8_drop 140 = .ok (.return_, 1) := by decide +kernel
set_option maxRecDepth 100000 in
set_option maxHeartbeats 1000000 in
theorem j_X8_drop_140 {p : Program} {l : Launch} {e : Env} {s : State} {m : MethodId} {args : Array Value} {below : List Frame} {meth : Method} {c : Code} {D : va_G} {aC : Nat → ClassId} {b0 fu : Nat} {σ0 τ : tM} {v : Unit}  (C : tCx p l s m args meth c yX8_drop.cls cX8_drop 6 none D aC b0 σ0) (htab : ∀ x ∈ c.exceptionTable.toList, False) (hin : meth.name = yX8_drop.name)   {σ : tM} (hm : J_X8_drop_140 b0 fu   σ = some (v, τ)) : tX p l e s m args below meth c 6 3 71 D aC b0 σ0 (.inl none) τ 140 [] [] σ := by
  unfold J_X8_drop_140 at hm
  obtain ⟨rfl, rfl⟩ := ret_e hm
  exact zx_vret C rfl rfl rfl dX8_drop_140
set_option maxRecDepth 100000 in
set_option maxHeartbeats 1000000 in
theorem j_X8_drop_124 {p : Program} {l : Launch} {e : Env} {s : State} {m : MethodId} {args : Array Value} {below : List Frame} {meth : Method} {c : Code} {D : va_G} {aC : Nat → ClassId} {b0 fu : Nat} {σ0 τ : tM} {v : Unit}  (C : tCx p l s m args meth c yX8_drop.cls cX8_drop 6 none D aC b0 σ0) (htab : ∀ x ∈ c.exceptionTable.toList, False) (hin : meth.name = yX8_drop.name)   {σ : tM} (hm : J_X8_drop_124 b0 fu   σ = some (v, τ)) : tX p l e s m args below meth c 6 3 71 D aC b0 σ0 (.inl none) τ 124 [] [] σ := by
  unfold J_X8_drop_124 at hm
  refine zx_goto C 140 dX8_drop_124 (by decide) ?_
  exact zx_lv [] [] rfl (j_X8_drop_140 C htab hin    hm)
set_option maxRecDepth 100000 in
set_option maxHeartbeats 1000000 in
theorem j_X8_drop_43 {p : Program} {l : Launch} {e : Env} {s : State} {m : MethodId} {args : Array Value} {below : List Frame} {meth : Method} {c : Code} {D : va_G} {aC : Nat → ClassId} {b0 fu : Nat} {σ0 τ : tM} {v : Unit}  (C : tCx p l s m args meth c yX8_drop.cls cX8_drop 6 none D aC b0 σ0) (htab : ∀ x ∈ c.exceptionTable.toList, False) (hin : meth.name = yX8_drop.name)  {x0 : Nat} {x1 : Int32} {x2 : Int32} {s0 : Nat} {s1 : Int32} {s2 : Int32} {σ : tM} (hm : J_X8_drop_43 b0 fu  x0 x1 x2 s0 s1 s2 σ = some (v, τ)) : tX p l e s m args below meth c 6 3 71 D aC b0 σ0 (.inl none) τ 43 [(0, .ref (x0)), (1, .int (x1)), (2, .int (x2))] [.int (s2), .int (s1), .ref (s0)] σ := by
  unfold J_X8_drop_43 at hm
  obtain ⟨k25, i26, hm⟩ := ckO_e hm
  obtain ⟨v27, ρ28, h29, hm⟩ := cll_e hm
  refine zx_callV (σ := σ) C [.int (s1), .int (s2)] tC_5 k25 i26 Y_X5_release W_5_46 W_5_47 W_5_48 (c_X5_release h29) (by decide) (by decide) rfl (Nat.le_of_ble_eq_true rfl) dX8_drop_43 rfl ?_
  refine zx_aload_n C dX8_drop_46 0 rfl ?_
  refine zx_iload_n C dX8_drop_47 1 rfl ?_
  refine zx_iconst (v := 1) C dX8_drop_48 (by decide) ?_
  obtain ⟨k30, i31, hm⟩ := ckO_e hm
  obtain ⟨v32, ρ33, h34, hm⟩ := cll_e hm
  refine zx_callV (σ := ρ28) C [.int (x1), .int (1)] tC_8 k30 i31 Y_X8_noteChange W_2_160 W_2_162 Wp_7 (c_X8_noteChange h34) (by decide) (by decide) rfl (Nat.le_of_ble_eq_true rfl) dX8_drop_49 rfl ?_
  refine zx_iload_n C dX8_drop_52 2 rfl ?_
  refine zx_bipush (v := 40) C dX8_drop_53 (by decide) ?_
  refine zx_icmp_lt C 127 dX8_drop_55 (by decide) (fun c35 => ?_) (fun c35 => ?_)
  · replace hm := ip_e hm c35
    refine zx_iload_n C dX8_drop_127 2 rfl ?_
    refine zx_bipush (v := 8) C dX8_drop_128 (by decide) ?_
    refine zx_icmp_lt C 140 dX8_drop_130 (by decide) (fun c36 => ?_) (fun c36 => ?_)
    · replace hm := ip_e hm c36
      exact zx_lv [] [] rfl (j_X8_drop_140 C htab hin    hm)
    · replace hm := in_e hm c36
      refine zx_aload_n C dX8_drop_133 0 rfl ?_
      refine zx_iload_n C dX8_drop_134 1 rfl ?_
      refine zx_bipush (v := 9) C dX8_drop_135 (by decide) ?_
      obtain ⟨k37, i38, hm⟩ := ckO_e hm
      obtain ⟨v39, ρ40, h41, hm⟩ := cll_e hm
      refine zx_callV (σ := ρ33) C [.int (x1), .int (9)] tC_8 k37 i38 Y_X8_dropIfEmpty W_5_54 W_5_56 Wp_35 (c_X8_dropIfEmpty h41) (by decide) (by decide) rfl (Nat.le_of_ble_eq_true rfl) dX8_drop_137 rfl ?_
      exact zx_lv [] [] rfl (j_X8_drop_140 C htab hin    hm)
  · replace hm := in_e hm c35
    refine zx_aload_n C dX8_drop_58 0 rfl ?_
    refine zx_iload_n C dX8_drop_59 1 rfl ?_
    refine zx_iload_n C dX8_drop_60 2 rfl ?_
    obtain ⟨k42, i43, hm⟩ := ckO_e hm
    obtain ⟨v44, ρ45, h46, hm⟩ := cll_e hm
    refine zx_callV (σ := ρ33) C [.int (x1), .int (x2)] tC_8 k42 i43 Y_X8_table W_4_113 W_4_115 Wp_25 (c_X8_table h46) (by decide) (by decide) rfl (Nat.le_of_ble_eq_true rfl) dX8_drop_61 rfl ?_
    obtain ⟨v47, ρ48, h49, hm⟩ := cll_e hm
    refine zx_callS (σ := ρ45) C [.long (v44)] Y_X8_cellOf W_4_117 W_4_118 (c_X8_cellOf h49) (by decide) (by decide) rfl (Nat.le_of_ble_eq_true rfl) dX8_drop_64 rfl ?_
    refine zx_istore C [(5, .int (v47)), (0, .ref (x0)), (1, .int (x1)), (2, .int (x2))] dX8_drop_67 (by decide) rfl ?_
    refine zx_aload_n C dX8_drop_69 1 rfl ?_
    obtain ⟨k50, i51, hm⟩ := ckO_e hm
    obtain ⟨a52, h53, hm⟩ := osm_e hm
    refine zx_get (j := 0) C tC_8 k50 i51 ⟨by decide, Or.inl W_1_163⟩ dX8_drop_70 (.ref a52) (rf_s h53) ?_
    refine zx_iload C dX8_drop_73 0 rfl ?_
    refine zx_iconst (v := 0) C dX8_drop_75 (by decide) ?_
    obtain ⟨k54, i55, hm⟩ := ckO_e hm
    obtain ⟨v56, ρ57, h58, hm⟩ := cll_e hm
    refine zx_callV (σ := ρ48) C [.int (v47), .int (0)] tC_5 k54 i55 Y_X5_isZeroFrom W_5_37 W_5_38 W_5_39 (c_X5_isZeroFrom h58) (by decide) (by decide) rfl (Nat.le_of_ble_eq_true rfl) dX8_drop_76 rfl ?_
    refine zx_if_eq C 124 dX8_drop_79 (by decide) (fun c59 => ?_) (fun c59 => ?_)
    · replace hm := ip_e hm c59
      exact zx_lv [] [] rfl (j_X8_drop_124 C htab hin    hm)
    · replace hm := in_e hm c59
      refine zx_aload_n C dX8_drop_82 1 rfl ?_
      obtain ⟨k60, i61, hm⟩ := ckO_e hm
      obtain ⟨a62, h63, hm⟩ := osm_e hm
      refine zx_get (j := 0) C tC_8 k60 i61 ⟨by decide, Or.inl W_1_163⟩ dX8_drop_83 (.ref a62) (rf_s h63) ?_
      refine zx_aload_n C dX8_drop_86 1 rfl ?_
      refine zx_iload_n C dX8_drop_87 2 rfl ?_
      refine zx_bipush (v := 10) C dX8_drop_88 (by decide) ?_
      obtain ⟨v64, ρ65, h66, hm⟩ := cll_e hm
      refine zx_callV (σ := ρ57) C [.int (x1), .int (10)] tC_8 k60 i61 Y_X8_nodeWord W_3_83 W_3_84 W_3_85 (c_X8_nodeWord h66) (by decide) (by decide) rfl (Nat.le_of_ble_eq_true rfl) dX8_drop_90 rfl ?_
      obtain ⟨v67, ρ68, h69, hm⟩ := cll_e hm
      refine zx_callS (σ := ρ65) C [.long (v64)] Y_X8_cellOf W_4_117 W_4_118 (c_X8_cellOf h69) (by decide) (by decide) rfl (Nat.le_of_ble_eq_true rfl) dX8_drop_93 rfl ?_
      refine zx_iload_n C dX8_drop_96 3 rfl ?_
      refine zx_bipush (v := 40) C dX8_drop_97 (by decide) ?_
      refine zx_isub C dX8_drop_99 ?_
      refine zx_bipush (v := 32) C dX8_drop_100 (by decide) ?_
      refine zx_idiv C dX8_drop_102 (by decide) ?_
      refine zx_lconst (v := 0) C dX8_drop_103 (by decide) ?_
      obtain ⟨k70, i71, hm⟩ := ckO_e hm
      obtain ⟨v72, ρ73, h74, hm⟩ := cll_e hm
      refine zx_callV (σ := ρ68) C [.int (v67), .int (((x2) - (40)) / (32)), .long (0)] tC_5 k70 i71 Y_X5_setWord W_4_216 W_4_217 W_4_218 (c_X5_setWord h74) (by decide) (by decide) rfl (Nat.le_of_ble_eq_true rfl) dX8_drop_104 rfl ?_
      refine zx_aload_n C dX8_drop_107 1 rfl ?_
      obtain ⟨k75, i76, hm⟩ := ckO_e hm
      obtain ⟨a77, h78, hm⟩ := osm_e hm
      refine zx_get (j := 0) C tC_8 k75 i76 ⟨by decide, Or.inl W_1_163⟩ dX8_drop_108 (.ref a77) (rf_s h78) ?_
      refine zx_iload C dX8_drop_111 0 rfl ?_
      refine zx_iconst (v := 1) C dX8_drop_113 (by decide) ?_
      obtain ⟨k79, i80, hm⟩ := ckO_e hm
      obtain ⟨v81, ρ82, h83, hm⟩ := cll_e hm
      refine zx_callV (σ := ρ73) C [.int (v47), .int (1)] tC_5 k79 i80 Y_X5_release W_5_46 W_5_47 W_5_48 (c_X5_release h83) (by decide) (by decide) rfl (Nat.le_of_ble_eq_true rfl) dX8_drop_114 rfl ?_
      refine zx_aload_n C dX8_drop_117 1 rfl ?_
      refine zx_iload_n C dX8_drop_118 2 rfl ?_
      refine zx_bipush (v := 10) C dX8_drop_119 (by decide) ?_
      obtain ⟨k84, i85, hm⟩ := ckO_e hm
      obtain ⟨v86, ρ87, h88, hm⟩ := cll_e hm
      refine zx_callV (σ := ρ82) C [.int (x1), .int (10)] tC_8 k84 i85 Y_X8_dropIfEmpty W_5_54 W_5_56 Wp_35 (c_X8_dropIfEmpty h88) (by decide) (by decide) rfl (Nat.le_of_ble_eq_true rfl) dX8_drop_121 rfl ?_
      exact zx_lv [] [] rfl (j_X8_drop_124 C htab hin    hm)
set_option maxRecDepth 100000 in
set_option maxHeartbeats 1000000 in
theorem c_X8_drop {l : Launch} {D : va_G} {aC : Nat → ClassId} {b0 fu : Nat} {a0 : Nat} {p0 : Int32} {p1 : Int32} {σ τ : tM} {v : Unit} (hm : m_X8_drop b0 fu a0 p0 p1 σ = some (v, τ)) : tMt l D aC b0 yX8_drop (Cond.code yX8_drop cX8_drop 6 none) 3 71 [.ref (a0), .int (p0), .int (p1)] σ (.inl none) τ := by
  unfold m_X8_drop at hm
  obtain ⟨hg, hm⟩ := grw_e hm
  refine tMt_of (n := 0) rfl (Nat.le_of_ble_eq_true rfl) hg ?_
  intro p e s m below meth c C htab hin
  refine zx_lv [0, 1, 2] [(0, .ref (a0)), (1, .int (p0)), (2, .int (p1))] rfl ?_
  refine zx_aload_n C dX8_drop_0 0 rfl ?_
  refine zx_iload_n C dX8_drop_1 1 rfl ?_
  refine zx_iload_n C dX8_drop_2 2 rfl ?_
  obtain ⟨k1, i2, hm⟩ := ckO_e hm
  obtain ⟨v3, ρ4, h5, hm⟩ := cll_e hm
  refine zx_callV (σ := σ) C [.int (p0), .int (p1)] tC_8 k1 i2 Y_X8_pointer W_4_109 W_4_110 W_4_111 (c_X8_pointer h5) (by decide) (by decide) rfl (Nat.le_of_ble_eq_true rfl) dX8_drop_3 rfl ?_
  refine zx_lstore_n C [(3, .long (v3)), (0, .ref (a0)), (1, .int (p0)), (2, .int (p1))] dX8_drop_6 rfl (by decide) rfl ?_
  refine zx_lload_n C dX8_drop_7 0 rfl ?_
  refine zx_lconst (v := 0) C dX8_drop_8 (by decide) ?_
  refine zx_lcmp C dX8_drop_9 ?_
  refine zx_if_ne C 14 dX8_drop_10 (by decide) (fun c6 => ?_) (fun c6 => ?_)
  · replace hm := in_e hm c6
    refine zx_aload_n C dX8_drop_14 1 rfl ?_
    refine zx_iload_n C dX8_drop_15 2 rfl ?_
    refine zx_iload_n C dX8_drop_16 3 rfl ?_
    refine zx_lconst (v := 0) C dX8_drop_17 (by decide) ?_
    obtain ⟨k7, i8, hm⟩ := ckO_e hm
    obtain ⟨v9, ρ10, h11, hm⟩ := cll_e hm
    refine zx_callV (σ := ρ4) C [.int (p0), .int (p1), .long (0)] tC_8 k7 i8 Y_X8_setPointer W_4_220 W_4_222 Wp_31 (c_X8_setPointer h11) (by decide) (by decide) rfl (Nat.le_of_ble_eq_true rfl) dX8_drop_18 rfl ?_
    refine zx_aload_n C dX8_drop_21 1 rfl ?_
    obtain ⟨k12, i13, hm⟩ := ckO_e hm
    obtain ⟨a14, h15, hm⟩ := osm_e hm
    refine zx_get (j := 0) C tC_8 k12 i13 ⟨by decide, Or.inl W_1_163⟩ dX8_drop_22 (.ref a14) (rf_s h15) ?_
    refine zx_lload_n C dX8_drop_25 0 rfl ?_
    obtain ⟨v16, ρ17, h18, hm⟩ := cll_e hm
    refine zx_callS (σ := ρ10) C [.long (v3)] Y_X8_cellOf W_4_117 W_4_118 (c_X8_cellOf h18) (by decide) (by decide) rfl (Nat.le_of_ble_eq_true rfl) dX8_drop_26 rfl ?_
    refine zx_aload_n C dX8_drop_29 1 rfl ?_
    refine zx_iload_n C dX8_drop_30 2 rfl ?_
    obtain ⟨k19, i20, hm⟩ := ckO_e hm
    obtain ⟨v21, ρ22, h23, hm⟩ := cll_e hm
    refine zx_callV (σ := ρ17) C [.int (p0)] tC_8 k19 i20 Y_X8_kind W_3_79 W_3_80 W_3_81 (c_X8_kind h23) (by decide) (by decide) rfl (Nat.le_of_ble_eq_true rfl) dX8_drop_31 rfl ?_
    refine zx_iconst (v := 2) C dX8_drop_34 (by decide) ?_
    refine zx_icmp_ne C 42 dX8_drop_35 (by decide) (fun c24 => ?_) (fun c24 => ?_)
    · replace hm := in_e hm c24
      refine zx_iconst (v := 0) C dX8_drop_42 (by decide) ?_
      exact zx_lv [1, 2, 3] [(0, .ref (a0)), (1, .int (p0)), (2, .int (p1))] rfl (j_X8_drop_43 C htab hin    hm)
    · replace hm := ip_e hm c24
      refine zx_iconst (v := 1) C dX8_drop_38 (by decide) ?_
      refine zx_goto C 43 dX8_drop_39 (by decide) ?_
      exact zx_lv [1, 2, 3] [(0, .ref (a0)), (1, .int (p0)), (2, .int (p1))] rfl (j_X8_drop_43 C htab hin    hm)
  · replace hm := ip_e hm c6
    obtain ⟨rfl, rfl⟩ := ret_e hm
    exact zx_vret C rfl rfl rfl dX8_drop_13
abbrev cX8_resize : ByteArray := prog_10_method_32_code
def yX8_resize : MethodName := ⟨"SyncTree$Tree", "resize", "(II)V"⟩
theorem Y_X8_resize : tY yX8_resize cX8_resize 6 none 2 := ⟨W_5_69, W_1_4, ⟨by decide +kernel, by decide +kernel⟩, by decide +kernel⟩
theorem dX8_resize_0 : decode cX8_resize 0 = .ok (.aload_n 0, 1) := by decide +kernel
theorem dX8_resize_1 : decode cX8_resize 1 = .ok (.iload_n 1, 1) := by decide +kernel
theorem dX8_resize_2 : decode cX8_resize 2 = .ok (.invokevirtual 53, 3) := by decide +kernel
theorem dX8_resize_5 : decode cX8_resize 5 = .ok (.istore_n 3, 1) := by decide +kernel
theorem dX8_resize_6 : decode cX8_resize 6 = .ok (.aload_n 0, 1) := by decide +kernel
theorem dX8_resize_7 : decode cX8_resize 7 = .ok (.iload_n 1, 1) := by decide +kernel
theorem dX8_resize_8 : decode cX8_resize 8 = .ok (.iload_n 2, 1) := by decide +kernel
theorem dX8_resize_9 : decode cX8_resize 9 = .ok (.invokevirtual 83, 3) := by decide +kernel
theorem dX8_resize_12 : decode cX8_resize 12 = .ok (.iload_n 2, 1) := by decide +kernel
theorem dX8_resize_13 : decode cX8_resize 13 = .ok (.iload_n 3, 1) := by decide +kernel
theorem dX8_resize_14 : decode cX8_resize 14 = .ok (.if_icmp .ne 4, 3) := by decide +kernel
theorem dX8_resize_17 : decode cX8_resize 17 = .ok (.return_, 1) := by decide +kernel
theorem dX8_resize_18 : decode cX8_resize 18 = .ok (.aload_n 0, 1) := by decide +kernel
theorem dX8_resize_19 : decode cX8_resize 19 = .ok (.iload_n 1, 1) := by decide +kernel
theorem dX8_resize_20 : decode cX8_resize 20 = .ok (.iconst 1, 1) := by decide +kernel
theorem dX8_resize_21 : decode cX8_resize 21 = .ok (.invokevirtual 63, 3) := by decide +kernel
theorem dX8_resize_24 : decode cX8_resize 24 = .ok (.aload_n 0, 1) := by decide +kernel
theorem dX8_resize_25 : decode cX8_resize 25 = .ok (.iload_n 1, 1) := by decide +kernel
theorem dX8_resize_26 : decode cX8_resize 26 = .ok (.iload_n 2, 1) := by decide +kernel
theorem dX8_resize_27 : decode cX8_resize 27 = .ok (.iload_n 3, 1) := by decide +kernel
theorem dX8_resize_28 : decode cX8_resize 28 = .ok (.invokestatic 73, 3) := by decide +kernel
theorem dX8_resize_31 : decode cX8_resize 31 = .ok (.invokevirtual 133, 3) := by decide +kernel
theorem dX8_resize_34 : decode cX8_resize 34 = .ok (.iload_n 2, 1) := by decide +kernel
theorem dX8_resize_35 : decode cX8_resize 35 = .ok (.sipush 256, 3) := by decide +kernel
theorem dX8_resize_38 : decode cX8_resize 38 = .ok (.iadd, 1) := by decide +kernel
theorem dX8_resize_39 : decode cX8_resize 39 = .ok (.iconst 1, 1) := by decide +kernel
theorem dX8_resize_40 : decode cX8_resize 40 = .ok (.isub, 1) := by decide +kernel
theorem dX8_resize_41 : decode cX8_resize 41 = .ok (.sipush 256, 3) := by decide +kernel
theorem dX8_resize_44 : decode cX8_resize 44 = .ok (.idiv, 1) := by decide +kernel
theorem dX8_resize_45 : decode cX8_resize 45 = .ok (.istore 4, 2) := by decide +kernel
theorem dX8_resize_47 : decode cX8_resize 47 = .ok (.iload_n 3, 1) := by decide +kernel
theorem dX8_resize_48 : decode cX8_resize 48 = .ok (.iconst 1, 1) := by decide +kernel
theorem dX8_resize_49 : decode cX8_resize 49 = .ok (.isub, 1) := by decide +kernel
theorem dX8_resize_50 : decode cX8_resize 50 = .ok (.sipush 256, 3) := by decide +kernel
theorem dX8_resize_53 : decode cX8_resize 53 = .ok (.idiv, 1) := by decide +kernel
theorem dX8_resize_54 : decode cX8_resize 54 = .ok (.istore 5, 2) := by decide +kernel
theorem dX8_resize_56 : decode cX8_resize 56 = .ok (.iload 5, 2) := by decide +kernel
theorem dX8_resize_58 : decode cX8_resize 58 = .ok (.iload 4, 2) := by decide +kernel
theorem dX8_resize_60 : decode cX8_resize 60 = .ok (.if_icmp .lt 16, 3) := by decide +kernel
theorem dX8_resize_63 : decode cX8_resize 63 = .ok (.aload_n 0, 1) := by decide +kernel
theorem dX8_resize_64 : decode cX8_resize 64 = .ok (.iload_n 1, 1) := by decide +kernel
theorem dX8_resize_65 : decode cX8_resize 65 = .ok (.iload 5, 2) := by decide +kernel
theorem dX8_resize_67 : decode cX8_resize 67 = .ok (.invokevirtual 136, 3) := by decide +kernel
theorem dX8_resize_70 : decode cX8_resize 70 = .ok (.iinc 5 (-1), 3) := by decide +kernel
theorem dX8_resize_73 : decode cX8_resize 73 = .ok (.goto (-17), 3) := by decide +kernel
theorem dX8_resize_76 : decode cX8_resize 76 = .ok (.return_, 1) := by decide +kernel
set_option maxRecDepth 100000 in
set_option maxHeartbeats 1000000 in
theorem l_X8_resize_56 {p : Program} {l : Launch} {e : Env} {s : State} {m : MethodId} {args : Array Value} {below : List Frame} {meth : Method} {c : Code} {D : va_G} {aC : Nat → ClassId} {b0 fu : Nat} {σ0 τ : tM} {v : Unit}  (C : tCx p l s m args meth c yX8_resize.cls cX8_resize 6 none D aC b0 σ0) (htab : ∀ x ∈ c.exceptionTable.toList, False) (hin : meth.name = yX8_resize.name)  : ∀ (n : Nat) (x0 : Nat) (x1 : Int32) (x4 : Int32) (x5 : Int32) (σ : tM), L_X8_resize_56 b0 fu  n x0 x1 x4 x5 σ = some (v, τ) → tX p l e s m args below meth c 6 4 96 D aC b0 σ0 (.inl none) τ 56 [(0, .ref (x0)), (1, .int (x1)), (4, .int (x4)), (5, .int (x5))] [] σ := by
  intro n
  induction n with
  | zero => intro x0 x1 x4 x5 σ hm; unfold L_X8_resize_56 at hm; cases hm
  | succ n ih =>
    intro x0 x1 x4 x5 σ hm
    unfold L_X8_resize_56 at hm
    obtain ⟨rc56, hrc⟩ : ∃ z, z = L_X8_resize_56 b0 fu  n := ⟨_, rfl⟩
    replace hm := ltb_e hm hrc
    rw [← hrc] at ih
    have hrc56 := ih
    clear ih hrc
    refine zx_iload C dX8_resize_56 3 rfl ?_
    refine zx_iload C dX8_resize_58 2 rfl ?_
    refine zx_icmp_lt C 76 dX8_resize_60 (by decide) (fun c24 => ?_) (fun c24 => ?_)
    · replace hm := ip_e hm c24
      obtain ⟨rfl, rfl⟩ := ret_e hm
      exact zx_vret C rfl rfl rfl dX8_resize_76
    · replace hm := in_e hm c24
      refine zx_aload_n C dX8_resize_63 0 rfl ?_
      refine zx_iload_n C dX8_resize_64 1 rfl ?_
      refine zx_iload C dX8_resize_65 3 rfl ?_
      obtain ⟨k25, i26, hm⟩ := ckO_e hm
      obtain ⟨v27, ρ28, h29, hm⟩ := cll_e hm
      refine zx_callV (σ := σ) C [.int (x1), .int (x5)] tC_8 k25 i26 Y_X8_drop W_5_42 W_5_44 Wp_33 (c_X8_drop h29) (by decide) (by decide) rfl (Nat.le_of_ble_eq_true rfl) dX8_resize_67 rfl ?_
      obtain ⟨y30, hy30⟩ : ∃ z : Int32, z = (x5) + Int32.ofInt (-1) := ⟨_, rfl⟩
      replace hm := ltb_e hm hy30
      refine zx_iinc C [(5, .int (y30)), (0, .ref (x0)), (1, .int (x1)), (4, .int (x4))] dX8_resize_70 3 rfl hy30.symm (by decide) rfl ?_
      refine zx_goto C 56 dX8_resize_73 (by decide) ?_
      exact zx_lv [1, 2, 3, 0] [(0, .ref (x0)), (1, .int (x1)), (4, .int (x4)), (5, .int (y30))] rfl (hrc56 _ _ _ _ _ hm)
set_option maxRecDepth 100000 in
set_option maxHeartbeats 1000000 in
theorem c_X8_resize {l : Launch} {D : va_G} {aC : Nat → ClassId} {b0 fu : Nat} {a0 : Nat} {p0 : Int32} {p1 : Int32} {σ τ : tM} {v : Unit} (hm : m_X8_resize b0 fu a0 p0 p1 σ = some (v, τ)) : tMt l D aC b0 yX8_resize (Cond.code yX8_resize cX8_resize 6 none) 4 96 [.ref (a0), .int (p0), .int (p1)] σ (.inl none) τ := by
  unfold m_X8_resize at hm
  obtain ⟨hg, hm⟩ := grw_e hm
  refine tMt_of (n := 0) rfl (Nat.le_of_ble_eq_true rfl) hg ?_
  intro p e s m below meth c C htab hin
  refine zx_lv [0, 1, 2] [(0, .ref (a0)), (1, .int (p0)), (2, .int (p1))] rfl ?_
  refine zx_aload_n C dX8_resize_0 0 rfl ?_
  refine zx_iload_n C dX8_resize_1 1 rfl ?_
  obtain ⟨k1, i2, hm⟩ := ckO_e hm
  obtain ⟨v3, ρ4, h5, hm⟩ := cll_e hm
  refine zx_callV (σ := σ) C [.int (p0)] tC_8 k1 i2 Y_X8_size W_4_224 W_4_133 W_4_134 (c_X8_size h5) (by decide) (by decide) rfl (Nat.le_of_ble_eq_true rfl) dX8_resize_2 rfl ?_
  refine zx_istore_n C [(3, .int (v3)), (0, .ref (a0)), (1, .int (p0)), (2, .int (p1))] dX8_resize_5 rfl (by decide) rfl ?_
  refine zx_aload_n C dX8_resize_6 1 rfl ?_
  refine zx_iload_n C dX8_resize_7 2 rfl ?_
  refine zx_iload_n C dX8_resize_8 3 rfl ?_
  obtain ⟨k6, i7, hm⟩ := ckO_e hm
  obtain ⟨v8, ρ9, h10, hm⟩ := cll_e hm
  refine zx_callV (σ := ρ4) C [.int (p0), .int (p1)] tC_8 k6 i7 Y_X8_setSize W_4_186 W_4_188 Wp_29 (c_X8_setSize h10) (by decide) (by decide) rfl (Nat.le_of_ble_eq_true rfl) dX8_resize_9 rfl ?_
  refine zx_iload_n C dX8_resize_12 3 rfl ?_
  refine zx_iload_n C dX8_resize_13 0 rfl ?_
  refine zx_icmp_ne C 18 dX8_resize_14 (by decide) (fun c11 => ?_) (fun c11 => ?_)
  · replace hm := in_e hm c11
    refine zx_aload_n C dX8_resize_18 1 rfl ?_
    refine zx_iload_n C dX8_resize_19 2 rfl ?_
    refine zx_iconst (v := 1) C dX8_resize_20 (by decide) ?_
    obtain ⟨k12, i13, hm⟩ := ckO_e hm
    obtain ⟨v14, ρ15, h16, hm⟩ := cll_e hm
    refine zx_callV (σ := ρ9) C [.int (p0), .int (1)] tC_8 k12 i13 Y_X8_noteChange W_2_160 W_2_162 Wp_7 (c_X8_noteChange h16) (by decide) (by decide) rfl (Nat.le_of_ble_eq_true rfl) dX8_resize_21 rfl ?_
    refine zx_aload_n C dX8_resize_24 1 rfl ?_
    refine zx_iload_n C dX8_resize_25 2 rfl ?_
    refine zx_iload_n C dX8_resize_26 3 rfl ?_
    refine zx_iload_n C dX8_resize_27 0 rfl ?_
    refine zx_min C W_4_179 W_2_106 W_1_10 W_2_107 (by decide) (by decide) (Nat.le_of_ble_eq_true rfl) dX8_resize_28 ?_
    obtain ⟨k17, i18, hm⟩ := ckO_e hm
    obtain ⟨v19, ρ20, h21, hm⟩ := cll_e hm
    refine zx_callV (σ := ρ15) C [.int (p0), .int ((if (v3) < (p1) then (v3) else (p1) : Int32))] tC_8 k17 i18 Y_X8_zeroBehind W_5_70 W_5_72 Wp_37 (c_X8_zeroBehind h21) (by decide) (by decide) rfl (Nat.le_of_ble_eq_true rfl) dX8_resize_31 rfl ?_
    refine zx_iload_n C dX8_resize_34 3 rfl ?_
    refine zx_sipush (v := 256) C dX8_resize_35 (by decide) ?_
    refine zx_iadd C dX8_resize_38 ?_
    refine zx_iconst (v := 1) C dX8_resize_39 (by decide) ?_
    refine zx_isub C dX8_resize_40 ?_
    refine zx_sipush (v := 256) C dX8_resize_41 (by decide) ?_
    refine zx_idiv C dX8_resize_44 (by decide) ?_
    refine zx_topi (fun y22 hy22 => ?_)
    replace hm := ltb_e hm hy22
    refine zx_istore C [(4, .int (y22)), (3, .int (v3)), (0, .ref (a0)), (1, .int (p0)), (2, .int (p1))] dX8_resize_45 (by decide) rfl ?_
    refine zx_iload_n C dX8_resize_47 1 rfl ?_
    refine zx_iconst (v := 1) C dX8_resize_48 (by decide) ?_
    refine zx_isub C dX8_resize_49 ?_
    refine zx_sipush (v := 256) C dX8_resize_50 (by decide) ?_
    refine zx_idiv C dX8_resize_53 (by decide) ?_
    refine zx_topi (fun y23 hy23 => ?_)
    replace hm := ltb_e hm hy23
    refine zx_istore C [(5, .int (y23)), (4, .int (y22)), (3, .int (v3)), (0, .ref (a0)), (1, .int (p0)), (2, .int (p1))] dX8_resize_54 (by decide) rfl ?_
    exact zx_lv [3, 4, 1, 0] [(0, .ref (a0)), (1, .int (p0)), (4, .int (y22)), (5, .int (y23))] rfl (l_X8_resize_56 C htab hin  _ _ _ _ _ _ hm)
  · replace hm := ip_e hm c11
    obtain ⟨rfl, rfl⟩ := ret_e hm
    exact zx_vret C rfl rfl rfl dX8_resize_17
abbrev cX8_describe : ByteArray := prog_10_method_38_code
def yX8_describe : MethodName := ⟨"SyncTree$Tree", "describe", "(II)I"⟩
theorem Y_X8_describe : tY yX8_describe cX8_describe 3 (some .int) 2 := ⟨W_5_219, W_1_4, ⟨by decide +kernel, by decide +kernel⟩, by decide +kernel⟩
theorem dX8_describe_0 : decode cX8_describe 0 = .ok (.iload_n 2, 1) := by decide +kernel
theorem dX8_describe_1 : decode cX8_describe 1 = .ok (.tableswitch 71 0 5 #[39, 45, 51, 57, 59, 65], 39) := by decide +kernel
theorem dX8_describe_40 : decode cX8_describe 40 = .ok (.aload_n 0, 1) := by decide +kernel
theorem dX8_describe_41 : decode cX8_describe 41 = .ok (.iload_n 1, 1) := by decide +kernel
theorem dX8_describe_42 : decode cX8_describe 42 = .ok (.invokevirtual 40, 3) := by decide +kernel
theorem dX8_describe_45 : decode cX8_describe 45 = .ok (.ireturn, 1) := by decide +kernel
theorem dX8_describe_46 : decode cX8_describe 46 = .ok (.aload_n 0, 1) := by decide +kernel
theorem dX8_describe_47 : decode cX8_describe 47 = .ok (.iload_n 1, 1) := by decide +kernel
theorem dX8_describe_48 : decode cX8_describe 48 = .ok (.invokevirtual 53, 3) := by decide +kernel
theorem dX8_describe_51 : decode cX8_describe 51 = .ok (.ireturn, 1) := by decide +kernel
theorem dX8_describe_52 : decode cX8_describe 52 = .ok (.aload_n 0, 1) := by decide +kernel
theorem dX8_describe_53 : decode cX8_describe 53 = .ok (.iload_n 1, 1) := by decide +kernel
theorem dX8_describe_54 : decode cX8_describe 54 = .ok (.invokevirtual 60, 3) := by decide +kernel
theorem dX8_describe_57 : decode cX8_describe 57 = .ok (.ireturn, 1) := by decide +kernel
theorem dX8_describe_58 : decode cX8_describe 58 = .ok (.iload_n 1, 1) := by decide +kernel
theorem dX8_describe_59 : decode cX8_describe 59 = .ok (.ireturn, 1) := by decide +kernel
theorem dX8_describe_60 : decode cX8_describe 60 = .ok (.aload_n 0, 1) := by decide +kernel
theorem dX8_describe_61 : decode cX8_describe 61 = .ok (.iload_n 1, 1) := by decide +kernel
theorem dX8_describe_62 : decode cX8_describe 62 = .ok (.invokevirtual 155, 3) := by decide +kernel
theorem dX8_describe_65 : decode cX8_describe 65 = .ok (.ireturn, 1) := by decide +kernel
theorem dX8_describe_66 : decode cX8_describe 66 = .ok (.aload_n 0, 1) := by decide +kernel
theorem dX8_describe_67 : decode cX8_describe 67 = .ok (.iload_n 1, 1) := by decide +kernel
theorem dX8_describe_68 : decode cX8_describe 68 = .ok (.invokevirtual 158, 3) := by decide +kernel
theorem dX8_describe_71 : decode cX8_describe 71 = .ok (.ireturn, 1) := by decide +kernel
theorem dX8_describe_72 : decode cX8_describe 72 = .ok (.aload_n 0, 1) := by decide +kernel
theorem dX8_describe_73 : decode cX8_describe 73 = .ok (.iload_n 1, 1) := by decide +kernel
theorem dX8_describe_74 : decode cX8_describe 74 = .ok (.invokevirtual 161, 3) := by decide +kernel
theorem dX8_describe_77 : decode cX8_describe 77 = .ok (.ireturn, 1) := by decide +kernel
set_option maxRecDepth 100000 in
set_option maxHeartbeats 1000000 in
theorem c_X8_describe {l : Launch} {D : va_G} {aC : Nat → ClassId} {b0 fu : Nat} {a0 : Nat} {p0 : Int32} {p1 : Int32} {σ τ : tM} {v : Int32} (hm : m_X8_describe b0 fu a0 p0 p1 σ = some (v, τ)) : tMt l D aC b0 yX8_describe (Cond.code yX8_describe cX8_describe 3 (some .int)) 4 93 [.ref (a0), .int (p0), .int (p1)] σ (.inl (some (.int v))) τ := by
  unfold m_X8_describe at hm
  obtain ⟨hg, hm⟩ := grw_e hm
  refine tMt_of (n := 0) rfl (Nat.le_of_ble_eq_true rfl) hg ?_
  intro p e s m below meth c C htab hin
  refine zx_lv [0, 1, 2] [(0, .ref (a0)), (1, .int (p0)), (2, .int (p1))] rfl ?_
  refine zx_iload_n C dX8_describe_0 2 rfl ?_
  rcases Classical.em ((p1) = (0)) with c1_0 | c1_0
  · replace hm := ip_e hm c1_0
    refine zx_tabIn (off := 39) C 40 dX8_describe_1 (by rw [c1_0]; decide) (by rw [c1_0]; decide) (by rw [c1_0]; decide) (by decide) ?_
    refine zx_aload_n C dX8_describe_40 0 rfl ?_
    refine zx_iload_n C dX8_describe_41 1 rfl ?_
    obtain ⟨k1, i2, hm⟩ := ckO_e hm
    obtain ⟨v3, ρ4, h5, hm⟩ := cll_e hm
    refine zx_callV (σ := σ) C [.int (p0)] tC_8 k1 i2 Y_X8_kind W_3_79 W_3_80 W_3_81 (c_X8_kind h5) (by decide) (by decide) rfl (Nat.le_of_ble_eq_true rfl) dX8_describe_42 rfl ?_
    obtain ⟨rfl, rfl⟩ := ret_e hm
    exact zx_iret C rfl rfl rfl dX8_describe_45
  · replace hm := in_e hm c1_0
    rcases Classical.em ((p1) = (1)) with c1_1 | c1_1
    · replace hm := ip_e hm c1_1
      refine zx_tabIn (off := 45) C 46 dX8_describe_1 (by rw [c1_1]; decide) (by rw [c1_1]; decide) (by rw [c1_1]; decide) (by decide) ?_
      refine zx_aload_n C dX8_describe_46 0 rfl ?_
      refine zx_iload_n C dX8_describe_47 1 rfl ?_
      obtain ⟨k6, i7, hm⟩ := ckO_e hm
      obtain ⟨v8, ρ9, h10, hm⟩ := cll_e hm
      refine zx_callV (σ := σ) C [.int (p0)] tC_8 k6 i7 Y_X8_size W_4_224 W_4_133 W_4_134 (c_X8_size h10) (by decide) (by decide) rfl (Nat.le_of_ble_eq_true rfl) dX8_describe_48 rfl ?_
      obtain ⟨rfl, rfl⟩ := ret_e hm
      exact zx_iret C rfl rfl rfl dX8_describe_51
    · replace hm := in_e hm c1_1
      rcases Classical.em ((p1) = (2)) with c1_2 | c1_2
      · replace hm := ip_e hm c1_2
        refine zx_tabIn (off := 51) C 52 dX8_describe_1 (by rw [c1_2]; decide) (by rw [c1_2]; decide) (by rw [c1_2]; decide) (by decide) ?_
        refine zx_aload_n C dX8_describe_52 0 rfl ?_
        refine zx_iload_n C dX8_describe_53 1 rfl ?_
        obtain ⟨k11, i12, hm⟩ := ckO_e hm
        obtain ⟨v13, ρ14, h15, hm⟩ := cll_e hm
        refine zx_callV (σ := σ) C [.int (p0)] tC_8 k11 i12 Y_X8_names W_4_190 W_4_191 W_4_192 (c_X8_names h15) (by decide) (by decide) rfl (Nat.le_of_ble_eq_true rfl) dX8_describe_54 rfl ?_
        obtain ⟨rfl, rfl⟩ := ret_e hm
        exact zx_iret C rfl rfl rfl dX8_describe_57
      · replace hm := in_e hm c1_2
        rcases Classical.em ((p1) = (3)) with c1_3 | c1_3
        · replace hm := ip_e hm c1_3
          refine zx_tabIn (off := 57) C 58 dX8_describe_1 (by rw [c1_3]; decide) (by rw [c1_3]; decide) (by rw [c1_3]; decide) (by decide) ?_
          refine zx_iload_n C dX8_describe_58 1 rfl ?_
          obtain ⟨rfl, rfl⟩ := ret_e hm
          exact zx_iret C rfl rfl rfl dX8_describe_59
        · replace hm := in_e hm c1_3
          rcases Classical.em ((p1) = (4)) with c1_4 | c1_4
          · replace hm := ip_e hm c1_4
            refine zx_tabIn (off := 59) C 60 dX8_describe_1 (by rw [c1_4]; decide) (by rw [c1_4]; decide) (by rw [c1_4]; decide) (by decide) ?_
            refine zx_aload_n C dX8_describe_60 0 rfl ?_
            refine zx_iload_n C dX8_describe_61 1 rfl ?_
            obtain ⟨k16, i17, hm⟩ := ckO_e hm
            obtain ⟨v18, ρ19, h20, hm⟩ := cll_e hm
            refine zx_callV (σ := σ) C [.int (p0)] tC_8 k16 i17 Y_X8_countBlocks W_5_220 W_5_222 Wp_43 (c_X8_countBlocks h20) (by decide) (by decide) rfl (Nat.le_of_ble_eq_true rfl) dX8_describe_62 rfl ?_
            obtain ⟨rfl, rfl⟩ := ret_e hm
            exact zx_iret C rfl rfl rfl dX8_describe_65
          · replace hm := in_e hm c1_4
            rcases Classical.em ((p1) = (5)) with c1_5 | c1_5
            · replace hm := ip_e hm c1_5
              refine zx_tabIn (off := 65) C 66 dX8_describe_1 (by rw [c1_5]; decide) (by rw [c1_5]; decide) (by rw [c1_5]; decide) (by decide) ?_
              refine zx_aload_n C dX8_describe_66 0 rfl ?_
              refine zx_iload_n C dX8_describe_67 1 rfl ?_
              obtain ⟨k21, i22, hm⟩ := ckO_e hm
              obtain ⟨v23, ρ24, h25, hm⟩ := cll_e hm
              refine zx_callV (σ := σ) C [.int (p0)] tC_8 k21 i22 Y_X8_countPointerBlocks W_5_224 W_5_226 Wp_44 (c_X8_countPointerBlocks h25) (by decide) (by decide) rfl (Nat.le_of_ble_eq_true rfl) dX8_describe_68 rfl ?_
              obtain ⟨rfl, rfl⟩ := ret_e hm
              exact zx_iret C rfl rfl rfl dX8_describe_71
            · replace hm := in_e hm c1_5
              have g1_0 : (p1).toInt ≠ 0 := fun e9 => c1_0 (Int32.toInt_inj.mp (e9.trans (by decide)))
              have g1_1 : (p1).toInt ≠ 1 := fun e9 => c1_1 (Int32.toInt_inj.mp (e9.trans (by decide)))
              have g1_2 : (p1).toInt ≠ 2 := fun e9 => c1_2 (Int32.toInt_inj.mp (e9.trans (by decide)))
              have g1_3 : (p1).toInt ≠ 3 := fun e9 => c1_3 (Int32.toInt_inj.mp (e9.trans (by decide)))
              have g1_4 : (p1).toInt ≠ 4 := fun e9 => c1_4 (Int32.toInt_inj.mp (e9.trans (by decide)))
              have g1_5 : (p1).toInt ≠ 5 := fun e9 => c1_5 (Int32.toInt_inj.mp (e9.trans (by decide)))
              refine zx_tabOut C 72 dX8_describe_1 (by omega) (by decide) ?_
              refine zx_aload_n C dX8_describe_72 0 rfl ?_
              refine zx_iload_n C dX8_describe_73 1 rfl ?_
              obtain ⟨k26, i27, hm⟩ := ckO_e hm
              obtain ⟨v28, ρ29, h30, hm⟩ := cll_e hm
              refine zx_callV (σ := σ) C [.int (p0)] tC_8 k26 i27 Y_X8_countEntries W_5_229 W_5_96 W_5_97 (c_X8_countEntries h30) (by decide) (by decide) rfl (Nat.le_of_ble_eq_true rfl) dX8_describe_74 rfl ?_
              obtain ⟨rfl, rfl⟩ := ret_e hm
              exact zx_iret C rfl rfl rfl dX8_describe_77
abbrev cX8_removeEntry : ByteArray := prog_10_method_52_code
def yX8_removeEntry : MethodName := ⟨"SyncTree$Tree", "removeEntry", "(II)V"⟩
theorem Y_X8_removeEntry : tY yX8_removeEntry cX8_removeEntry 5 none 2 := ⟨W_5_36, W_1_4, ⟨by decide +kernel, by decide +kernel⟩, by decide +kernel⟩
theorem dX8_removeEntry_0 : decode cX8_removeEntry 0 = .ok (.aload_n 0, 1) := by decide +kernel
theorem dX8_removeEntry_1 : decode cX8_removeEntry 1 = .ok (.iload_n 1, 1) := by decide +kernel
theorem dX8_removeEntry_2 : decode cX8_removeEntry 2 = .ok (.iload_n 2, 1) := by decide +kernel
theorem dX8_removeEntry_3 : decode cX8_removeEntry 3 = .ok (.bipush 8, 2) := by decide +kernel
theorem dX8_removeEntry_5 : decode cX8_removeEntry 5 = .ok (.idiv, 1) := by decide +kernel
theorem dX8_removeEntry_6 : decode cX8_removeEntry 6 = .ok (.invokevirtual 112, 3) := by decide +kernel
theorem dX8_removeEntry_9 : decode cX8_removeEntry 9 = .ok (.invokestatic 104, 3) := by decide +kernel
theorem dX8_removeEntry_12 : decode cX8_removeEntry 12 = .ok (.istore_n 3, 1) := by decide +kernel
theorem dX8_removeEntry_13 : decode cX8_removeEntry 13 = .ok (.iconst 0, 1) := by decide +kernel
theorem dX8_removeEntry_14 : decode cX8_removeEntry 14 = .ok (.istore 4, 2) := by decide +kernel
theorem dX8_removeEntry_16 : decode cX8_removeEntry 16 = .ok (.iload 4, 2) := by decide +kernel
theorem dX8_removeEntry_18 : decode cX8_removeEntry 18 = .ok (.iconst 4, 1) := by decide +kernel
theorem dX8_removeEntry_19 : decode cX8_removeEntry 19 = .ok (.if_icmp .ge 27, 3) := by decide +kernel
theorem dX8_removeEntry_22 : decode cX8_removeEntry 22 = .ok (.aload_n 0, 1) := by decide +kernel
theorem dX8_removeEntry_23 : decode cX8_removeEntry 23 = .ok (.getfield 15, 3) := by decide +kernel
theorem dX8_removeEntry_26 : decode cX8_removeEntry 26 = .ok (.iload_n 3, 1) := by decide +kernel
theorem dX8_removeEntry_27 : decode cX8_removeEntry 27 = .ok (.iload_n 2, 1) := by decide +kernel
theorem dX8_removeEntry_28 : decode cX8_removeEntry 28 = .ok (.bipush 8, 2) := by decide +kernel
theorem dX8_removeEntry_30 : decode cX8_removeEntry 30 = .ok (.irem, 1) := by decide +kernel
theorem dX8_removeEntry_31 : decode cX8_removeEntry 31 = .ok (.iconst 4, 1) := by decide +kernel
theorem dX8_removeEntry_32 : decode cX8_removeEntry 32 = .ok (.imul, 1) := by decide +kernel
theorem dX8_removeEntry_33 : decode cX8_removeEntry 33 = .ok (.iload 4, 2) := by decide +kernel
theorem dX8_removeEntry_35 : decode cX8_removeEntry 35 = .ok (.iadd, 1) := by decide +kernel
theorem dX8_removeEntry_36 : decode cX8_removeEntry 36 = .ok (.lconst 0, 1) := by decide +kernel
theorem dX8_removeEntry_37 : decode cX8_removeEntry 37 = .ok (.invokevirtual 108, 3) := by decide +kernel
theorem dX8_removeEntry_40 : decode cX8_removeEntry 40 = .ok (.iinc 4 1, 3) := by decide +kernel
theorem dX8_removeEntry_43 : decode cX8_removeEntry 43 = .ok (.goto (-27), 3) := by decide +kernel
theorem dX8_removeEntry_46 : decode cX8_removeEntry 46 = .ok (.aload_n 0, 1) := by decide +kernel
theorem dX8_removeEntry_47 : decode cX8_removeEntry 47 = .ok (.iload_n 1, 1) := by decide +kernel
theorem dX8_removeEntry_48 : decode cX8_removeEntry 48 = .ok (.invokevirtual 53, 3) := by decide +kernel
theorem dX8_removeEntry_51 : decode cX8_removeEntry 51 = .ok (.sipush 256, 3) := by decide +kernel
theorem dX8_removeEntry_54 : decode cX8_removeEntry 54 = .ok (.idiv, 1) := by decide +kernel
theorem dX8_removeEntry_55 : decode cX8_removeEntry 55 = .ok (.iconst 1, 1) := by decide +kernel
theorem dX8_removeEntry_56 : decode cX8_removeEntry 56 = .ok (.isub, 1) := by decide +kernel
theorem dX8_removeEntry_57 : decode cX8_removeEntry 57 = .ok (.istore 4, 2) := by decide +kernel
theorem dX8_removeEntry_59 : decode cX8_removeEntry 59 = .ok (.iload 4, 2) := by decide +kernel
theorem dX8_removeEntry_61 : decode cX8_removeEntry 61 = .ok (.ifCond .lt 49, 3) := by decide +kernel
theorem dX8_removeEntry_64 : decode cX8_removeEntry 64 = .ok (.aload_n 0, 1) := by decide +kernel
theorem dX8_removeEntry_65 : decode cX8_removeEntry 65 = .ok (.getfield 15, 3) := by decide +kernel
theorem dX8_removeEntry_68 : decode cX8_removeEntry 68 = .ok (.aload_n 0, 1) := by decide +kernel
theorem dX8_removeEntry_69 : decode cX8_removeEntry 69 = .ok (.iload_n 1, 1) := by decide +kernel
theorem dX8_removeEntry_70 : decode cX8_removeEntry 70 = .ok (.iload 4, 2) := by decide +kernel
theorem dX8_removeEntry_72 : decode cX8_removeEntry 72 = .ok (.invokevirtual 112, 3) := by decide +kernel
theorem dX8_removeEntry_75 : decode cX8_removeEntry 75 = .ok (.invokestatic 104, 3) := by decide +kernel
theorem dX8_removeEntry_78 : decode cX8_removeEntry 78 = .ok (.iconst 0, 1) := by decide +kernel
theorem dX8_removeEntry_79 : decode cX8_removeEntry 79 = .ok (.invokevirtual 126, 3) := by decide +kernel
theorem dX8_removeEntry_82 : decode cX8_removeEntry 82 = .ok (.ifCond .ne 4, 3) := by decide +kernel
theorem dX8_removeEntry_85 : decode cX8_removeEntry 85 = .ok (.return_, 1) := by decide +kernel
theorem dX8_removeEntry_86 : decode cX8_removeEntry 86 = .ok (.aload_n 0, 1) := by decide +kernel
theorem dX8_removeEntry_87 : decode cX8_removeEntry 87 = .ok (.iload_n 1, 1) := by decide +kernel
theorem dX8_removeEntry_88 : decode cX8_removeEntry 88 = .ok (.iload 4, 2) := by decide +kernel
theorem dX8_removeEntry_90 : decode cX8_removeEntry 90 = .ok (.invokevirtual 136, 3) := by decide +kernel
theorem dX8_removeEntry_93 : decode cX8_removeEntry 93 = .ok (.aload_n 0, 1) := by decide +kernel
theorem dX8_removeEntry_94 : decode cX8_removeEntry 94 = .ok (.iload_n 1, 1) := by decide +kernel
theorem dX8_removeEntry_95 : decode cX8_removeEntry 95 = .ok (.iload 4, 2) := by decide +kernel
theorem dX8_removeEntry_97 : decode cX8_removeEntry 97 = .ok (.sipush 256, 3) := by decide +kernel
theorem dX8_removeEntry_100 : decode cX8_removeEntry 100 = .ok (.imul, 1) := by decide +kernel
theorem dX8_removeEntry_101 : decode cX8_removeEntry 101 = .ok (.invokevirtual 83, 3) := by decide +kernel
theorem dX8_removeEntry_104 : decode cX8_removeEntry 104 = .ok (.iinc 4 (-1), 3) := by decide +kernel
theorem dX8_removeEntry_107 : decode cX8_removeEntry 107 = .ok (.goto (-48), 3) := by decide +kernel
theorem dX8_removeEntry_110 : decode cX8_removeEntry 110 = .ok (.return_, 1) := by decide +kernel
set_option maxRecDepth 100000 in
set_option maxHeartbeats 1000000 in
theorem l_X8_removeEntry_59 {p : Program} {l : Launch} {e : Env} {s : State} {m : MethodId} {args : Array Value} {below : List Frame} {meth : Method} {c : Code} {D : va_G} {aC : Nat → ClassId} {b0 fu : Nat} {σ0 τ : tM} {v : Unit}  (C : tCx p l s m args meth c yX8_removeEntry.cls cX8_removeEntry 5 none D aC b0 σ0) (htab : ∀ x ∈ c.exceptionTable.toList, False) (hin : meth.name = yX8_removeEntry.name)  : ∀ (n : Nat) (x0 : Nat) (x1 : Int32) (x4 : Int32) (σ : tM), L_X8_removeEntry_59 b0 fu  n x0 x1 x4 σ = some (v, τ) → tX p l e s m args below meth c 5 4 96 D aC b0 σ0 (.inl none) τ 59 [(0, .ref (x0)), (1, .int (x1)), (4, .int (x4))] [] σ := by
  intro n
  induction n with
  | zero => intro x0 x1 x4 σ hm; unfold L_X8_removeEntry_59 at hm; cases hm
  | succ n ih =>
    intro x0 x1 x4 σ hm
    unfold L_X8_removeEntry_59 at hm
    obtain ⟨rc59, hrc⟩ : ∃ z, z = L_X8_removeEntry_59 b0 fu  n := ⟨_, rfl⟩
    replace hm := ltb_e hm hrc
    rw [← hrc] at ih
    have hrc59 := ih
    clear ih hrc
    refine zx_iload C dX8_removeEntry_59 2 rfl ?_
    refine zx_if_lt C 110 dX8_removeEntry_61 (by decide) (fun c16 => ?_) (fun c16 => ?_)
    · replace hm := ip_e hm c16
      obtain ⟨rfl, rfl⟩ := ret_e hm
      exact zx_vret C rfl rfl rfl dX8_removeEntry_110
    · replace hm := in_e hm c16
      refine zx_aload_n C dX8_removeEntry_64 0 rfl ?_
      obtain ⟨k17, i18, hm⟩ := ckO_e hm
      obtain ⟨a19, h20, hm⟩ := osm_e hm
      refine zx_get (j := 0) C tC_8 k17 i18 ⟨by decide, Or.inl W_1_163⟩ dX8_removeEntry_65 (.ref a19) (rf_s h20) ?_
      refine zx_aload_n C dX8_removeEntry_68 0 rfl ?_
      refine zx_iload_n C dX8_removeEntry_69 1 rfl ?_
      refine zx_iload C dX8_removeEntry_70 2 rfl ?_
      obtain ⟨v21, ρ22, h23, hm⟩ := cll_e hm
      refine zx_callV (σ := σ) C [.int (x1), .int (x4)] tC_8 k17 i18 Y_X8_pointer W_4_109 W_4_110 W_4_111 (c_X8_pointer h23) (by decide) (by decide) rfl (Nat.le_of_ble_eq_true rfl) dX8_removeEntry_72 rfl ?_
      obtain ⟨v24, ρ25, h26, hm⟩ := cll_e hm
      refine zx_callS (σ := ρ22) C [.long (v21)] Y_X8_cellOf W_4_117 W_4_118 (c_X8_cellOf h26) (by decide) (by decide) rfl (Nat.le_of_ble_eq_true rfl) dX8_removeEntry_75 rfl ?_
      refine zx_iconst (v := 0) C dX8_removeEntry_78 (by decide) ?_
      obtain ⟨k27, i28, hm⟩ := ckO_e hm
      obtain ⟨v29, ρ30, h31, hm⟩ := cll_e hm
      refine zx_callV (σ := ρ25) C [.int (v24), .int (0)] tC_5 k27 i28 Y_X5_isZeroFrom W_5_37 W_5_38 W_5_39 (c_X5_isZeroFrom h31) (by decide) (by decide) rfl (Nat.le_of_ble_eq_true rfl) dX8_removeEntry_79 rfl ?_
      refine zx_if_ne C 86 dX8_removeEntry_82 (by decide) (fun c32 => ?_) (fun c32 => ?_)
      · replace hm := in_e hm c32
        refine zx_aload_n C dX8_removeEntry_86 0 rfl ?_
        refine zx_iload_n C dX8_removeEntry_87 1 rfl ?_
        refine zx_iload C dX8_removeEntry_88 2 rfl ?_
        obtain ⟨k33, i34, hm⟩ := ckO_e hm
        obtain ⟨v35, ρ36, h37, hm⟩ := cll_e hm
        refine zx_callV (σ := ρ30) C [.int (x1), .int (x4)] tC_8 k33 i34 Y_X8_drop W_5_42 W_5_44 Wp_33 (c_X8_drop h37) (by decide) (by decide) rfl (Nat.le_of_ble_eq_true rfl) dX8_removeEntry_90 rfl ?_
        refine zx_aload_n C dX8_removeEntry_93 0 rfl ?_
        refine zx_iload_n C dX8_removeEntry_94 1 rfl ?_
        refine zx_iload C dX8_removeEntry_95 2 rfl ?_
        refine zx_sipush (v := 256) C dX8_removeEntry_97 (by decide) ?_
        refine zx_imul C dX8_removeEntry_100 ?_
        obtain ⟨k38, i39, hm⟩ := ckO_e hm
        obtain ⟨v40, ρ41, h42, hm⟩ := cll_e hm
        refine zx_callV (σ := ρ36) C [.int (x1), .int ((x4) * (256))] tC_8 k38 i39 Y_X8_setSize W_4_186 W_4_188 Wp_29 (c_X8_setSize h42) (by decide) (by decide) rfl (Nat.le_of_ble_eq_true rfl) dX8_removeEntry_101 rfl ?_
        obtain ⟨y43, hy43⟩ : ∃ z : Int32, z = (x4) + Int32.ofInt (-1) := ⟨_, rfl⟩
        replace hm := ltb_e hm hy43
        refine zx_iinc C [(4, .int (y43)), (0, .ref (x0)), (1, .int (x1))] dX8_removeEntry_104 2 rfl hy43.symm (by decide) rfl ?_
        refine zx_goto C 59 dX8_removeEntry_107 (by decide) ?_
        exact zx_lv [1, 2, 0] [(0, .ref (x0)), (1, .int (x1)), (4, .int (y43))] rfl (hrc59 _ _ _ _ hm)
      · replace hm := ip_e hm c32
        obtain ⟨rfl, rfl⟩ := ret_e hm
        exact zx_vret C rfl rfl rfl dX8_removeEntry_85
set_option maxRecDepth 100000 in
set_option maxHeartbeats 1000000 in
theorem l_X8_removeEntry_16 {p : Program} {l : Launch} {e : Env} {s : State} {m : MethodId} {args : Array Value} {below : List Frame} {meth : Method} {c : Code} {D : va_G} {aC : Nat → ClassId} {b0 fu : Nat} {σ0 τ : tM} {v : Unit}  (C : tCx p l s m args meth c yX8_removeEntry.cls cX8_removeEntry 5 none D aC b0 σ0) (htab : ∀ x ∈ c.exceptionTable.toList, False) (hin : meth.name = yX8_removeEntry.name)  : ∀ (n : Nat) (x0 : Nat) (x1 : Int32) (x2 : Int32) (x3 : Int32) (x4 : Int32) (σ : tM), L_X8_removeEntry_16 b0 fu  n x0 x1 x2 x3 x4 σ = some (v, τ) → tX p l e s m args below meth c 5 4 96 D aC b0 σ0 (.inl none) τ 16 [(0, .ref (x0)), (1, .int (x1)), (2, .int (x2)), (3, .int (x3)), (4, .int (x4))] [] σ := by
  intro n
  induction n with
  | zero => intro x0 x1 x2 x3 x4 σ hm; unfold L_X8_removeEntry_16 at hm; cases hm
  | succ n ih =>
    intro x0 x1 x2 x3 x4 σ hm
    unfold L_X8_removeEntry_16 at hm
    obtain ⟨rc16, hrc⟩ : ∃ z, z = L_X8_removeEntry_16 b0 fu  n := ⟨_, rfl⟩
    replace hm := ltb_e hm hrc
    rw [← hrc] at ih
    have hrc16 := ih
    clear ih hrc
    refine zx_iload C dX8_removeEntry_16 4 rfl ?_
    refine zx_iconst (v := 4) C dX8_removeEntry_18 (by decide) ?_
    refine zx_icmp_ge C 46 dX8_removeEntry_19 (by decide) (fun c9 => ?_) (fun c9 => ?_)
    · replace hm := ip_e hm c9
      refine zx_aload_n C dX8_removeEntry_46 0 rfl ?_
      refine zx_iload_n C dX8_removeEntry_47 1 rfl ?_
      obtain ⟨k10, i11, hm⟩ := ckO_e hm
      obtain ⟨v12, ρ13, h14, hm⟩ := cll_e hm
      refine zx_callV (σ := σ) C [.int (x1)] tC_8 k10 i11 Y_X8_size W_4_224 W_4_133 W_4_134 (c_X8_size h14) (by decide) (by decide) rfl (Nat.le_of_ble_eq_true rfl) dX8_removeEntry_48 rfl ?_
      refine zx_sipush (v := 256) C dX8_removeEntry_51 (by decide) ?_
      refine zx_idiv C dX8_removeEntry_54 (by decide) ?_
      refine zx_iconst (v := 1) C dX8_removeEntry_55 (by decide) ?_
      refine zx_isub C dX8_removeEntry_56 ?_
      refine zx_topi (fun y15 hy15 => ?_)
      replace hm := ltb_e hm hy15
      refine zx_istore C [(4, .int (y15)), (0, .ref (x0)), (1, .int (x1)), (2, .int (x2)), (3, .int (x3))] dX8_removeEntry_57 (by decide) rfl ?_
      exact zx_lv [1, 2, 0] [(0, .ref (x0)), (1, .int (x1)), (4, .int (y15))] rfl (l_X8_removeEntry_59 C htab hin  _ _ _ _ _ hm)
    · replace hm := in_e hm c9
      refine zx_aload_n C dX8_removeEntry_22 0 rfl ?_
      obtain ⟨k45, i46, hm⟩ := ckO_e hm
      obtain ⟨a47, h48, hm⟩ := osm_e hm
      refine zx_get (j := 0) C tC_8 k45 i46 ⟨by decide, Or.inl W_1_163⟩ dX8_removeEntry_23 (.ref a47) (rf_s h48) ?_
      refine zx_iload_n C dX8_removeEntry_26 3 rfl ?_
      refine zx_iload_n C dX8_removeEntry_27 2 rfl ?_
      refine zx_bipush (v := 8) C dX8_removeEntry_28 (by decide) ?_
      refine zx_irem C dX8_removeEntry_30 (by decide) ?_
      refine zx_iconst (v := 4) C dX8_removeEntry_31 (by decide) ?_
      refine zx_imul C dX8_removeEntry_32 ?_
      refine zx_iload C dX8_removeEntry_33 4 rfl ?_
      refine zx_iadd C dX8_removeEntry_35 ?_
      refine zx_lconst (v := 0) C dX8_removeEntry_36 (by decide) ?_
      obtain ⟨k49, i50, hm⟩ := ckO_e hm
      obtain ⟨v51, ρ52, h53, hm⟩ := cll_e hm
      refine zx_callV (σ := σ) C [.int (x3), .int ((((x2) - (x2) / (8) * (8)) * (4)) + (x4)), .long (0)] tC_5 k49 i50 Y_X5_setWord W_4_216 W_4_217 W_4_218 (c_X5_setWord h53) (by decide) (by decide) rfl (Nat.le_of_ble_eq_true rfl) dX8_removeEntry_37 rfl ?_
      obtain ⟨y54, hy54⟩ : ∃ z : Int32, z = (x4) + Int32.ofInt 1 := ⟨_, rfl⟩
      replace hm := ltb_e hm hy54
      refine zx_iinc C [(4, .int (y54)), (0, .ref (x0)), (1, .int (x1)), (2, .int (x2)), (3, .int (x3))] dX8_removeEntry_40 4 rfl hy54.symm (by decide) rfl ?_
      refine zx_goto C 16 dX8_removeEntry_43 (by decide) ?_
      exact zx_lv [1, 2, 3, 4, 0] [(0, .ref (x0)), (1, .int (x1)), (2, .int (x2)), (3, .int (x3)), (4, .int (y54))] rfl (hrc16 _ _ _ _ _ _ hm)
set_option maxRecDepth 100000 in
set_option maxHeartbeats 1000000 in
theorem c_X8_removeEntry {l : Launch} {D : va_G} {aC : Nat → ClassId} {b0 fu : Nat} {a0 : Nat} {p0 : Int32} {p1 : Int32} {σ τ : tM} {v : Unit} (hm : m_X8_removeEntry b0 fu a0 p0 p1 σ = some (v, τ)) : tMt l D aC b0 yX8_removeEntry (Cond.code yX8_removeEntry cX8_removeEntry 5 none) 4 96 [.ref (a0), .int (p0), .int (p1)] σ (.inl none) τ := by
  unfold m_X8_removeEntry at hm
  obtain ⟨hg, hm⟩ := grw_e hm
  refine tMt_of (n := 0) rfl (Nat.le_of_ble_eq_true rfl) hg ?_
  intro p e s m below meth c C htab hin
  refine zx_lv [0, 1, 2] [(0, .ref (a0)), (1, .int (p0)), (2, .int (p1))] rfl ?_
  refine zx_aload_n C dX8_removeEntry_0 0 rfl ?_
  refine zx_iload_n C dX8_removeEntry_1 1 rfl ?_
  refine zx_iload_n C dX8_removeEntry_2 2 rfl ?_
  refine zx_bipush (v := 8) C dX8_removeEntry_3 (by decide) ?_
  refine zx_idiv C dX8_removeEntry_5 (by decide) ?_
  obtain ⟨k1, i2, hm⟩ := ckO_e hm
  obtain ⟨v3, ρ4, h5, hm⟩ := cll_e hm
  refine zx_callV (σ := σ) C [.int (p0), .int ((p1) / (8))] tC_8 k1 i2 Y_X8_pointer W_4_109 W_4_110 W_4_111 (c_X8_pointer h5) (by decide) (by decide) rfl (Nat.le_of_ble_eq_true rfl) dX8_removeEntry_6 rfl ?_
  obtain ⟨v6, ρ7, h8, hm⟩ := cll_e hm
  refine zx_callS (σ := ρ4) C [.long (v3)] Y_X8_cellOf W_4_117 W_4_118 (c_X8_cellOf h8) (by decide) (by decide) rfl (Nat.le_of_ble_eq_true rfl) dX8_removeEntry_9 rfl ?_
  refine zx_istore_n C [(3, .int (v6)), (0, .ref (a0)), (1, .int (p0)), (2, .int (p1))] dX8_removeEntry_12 rfl (by decide) rfl ?_
  refine zx_iconst (v := 0) C dX8_removeEntry_13 (by decide) ?_
  refine zx_istore C [(4, .int (0)), (3, .int (v6)), (0, .ref (a0)), (1, .int (p0)), (2, .int (p1))] dX8_removeEntry_14 (by decide) rfl ?_
  exact zx_lv [2, 3, 4, 1, 0] [(0, .ref (a0)), (1, .int (p0)), (2, .int (p1)), (3, .int (v6)), (4, .int (0))] rfl (l_X8_removeEntry_16 C htab hin  _ _ _ _ _ _ _ hm)
abbrev cX9_walkWhole : ByteArray := prog_11_method_2_code
def yX9_walkWhole : MethodName := ⟨"SyncTree$Walker", "walkWhole", "(LSyncTree$PathText;Z)I"⟩
theorem Y_X9_walkWhole : tY yX9_walkWhole cX9_walkWhole 3 (some .int) 2 := ⟨W_5_13, W_1_7, ⟨by decide +kernel, by decide +kernel⟩, by decide +kernel⟩
theorem dX9_walkWhole_0 : decode cX9_walkWhole 0 = .ok (.aload_n 0, 1) := by decide +kernel
theorem dX9_walkWhole_1 : decode cX9_walkWhole 1 = .ok (.aload_n 1, 1) := by decide +kernel
theorem dX9_walkWhole_2 : decode cX9_walkWhole 2 = .ok (.aload_n 1, 1) := by decide +kernel
theorem dX9_walkWhole_3 : decode cX9_walkWhole 3 = .ok (.getfield 19, 3) := by decide +kernel
theorem dX9_walkWhole_6 : decode cX9_walkWhole 6 = .ok (.iload_n 2, 1) := by decide +kernel
theorem dX9_walkWhole_7 : decode cX9_walkWhole 7 = .ok (.invokevirtual 25, 3) := by decide +kernel
theorem dX9_walkWhole_10 : decode cX9_walkWhole 10 = .ok (.ireturn, 1) := by decide +kernel
set_option maxRecDepth 100000 in
set_option maxHeartbeats 1000000 in
theorem c_X9_walkWhole {l : Launch} {D : va_G} {aC : Nat → ClassId} {b0 fu : Nat} {a0 : Nat} {p0 : Nat} {p1 : Int32} {σ τ : tM} {v : Int32} (hm : m_X9_walkWhole b0 fu a0 p0 p1 σ = some (v, τ)) : tMt l D aC b0 yX9_walkWhole (Cond.code yX9_walkWhole cX9_walkWhole 3 (some .int)) 5 128 [.ref (a0), .ref (p0), .int (p1)] σ (.inl (some (.int v))) τ := by
  unfold m_X9_walkWhole at hm
  obtain ⟨hg, hm⟩ := grw_e hm
  refine tMt_of (n := 0) rfl (Nat.le_of_ble_eq_true rfl) hg ?_
  intro p e s m below meth c C htab hin
  refine zx_lv [0, 1, 2] [(0, .ref (a0)), (1, .ref (p0)), (2, .int (p1))] rfl ?_
  refine zx_aload_n C dX9_walkWhole_0 0 rfl ?_
  refine zx_aload_n C dX9_walkWhole_1 1 rfl ?_
  refine zx_aload_n C dX9_walkWhole_2 1 rfl ?_
  obtain ⟨k1, i2, hm⟩ := ckO_e hm
  refine zx_get (j := 1) C tC_3 k1 i2 ⟨by decide, Or.inr ⟨_, W_2_60⟩⟩ dX9_walkWhole_3 (.int (tI (σ) (p0) 1)) rfl ?_
  refine zx_iload_n C dX9_walkWhole_6 2 rfl ?_
  obtain ⟨k3, i4, hm⟩ := ckO_e hm
  obtain ⟨v5, ρ6, h7, hm⟩ := cll_e hm
  refine zx_callV (σ := σ) C [.ref (p0), .int (tI (σ) (p0) 1), .int (p1)] tC_9 k3 i4 Y_X9_walk W_4_73 W_4_75 Wp_21 (c_X9_walk h7) (by decide) (by decide) rfl (Nat.le_of_ble_eq_true rfl) dX9_walkWhole_7 rfl ?_
  obtain ⟨rfl, rfl⟩ := ret_e hm
  exact zx_iret C rfl rfl rfl dX9_walkWhole_10
abbrev cX9_walkAhead : ByteArray := prog_11_method_3_code
def yX9_walkAhead : MethodName := ⟨"SyncTree$Walker", "walkAhead", "(LSyncTree$PathText;)I"⟩
theorem Y_X9_walkAhead : tY yX9_walkAhead cX9_walkAhead 3 (some .int) 1 := ⟨W_4_72, W_1_7, ⟨by decide +kernel, by decide +kernel⟩, by decide +kernel⟩
theorem dX9_walkAhead_0 : decode cX9_walkAhead 0 = .ok (.aload_n 0, 1) := by decide +kernel
theorem dX9_walkAhead_1 : decode cX9_walkAhead 1 = .ok (.aload_n 1, 1) := by decide +kernel
theorem dX9_walkAhead_2 : decode cX9_walkAhead 2 = .ok (.aload_n 1, 1) := by decide +kernel
theorem dX9_walkAhead_3 : decode cX9_walkAhead 3 = .ok (.getfield 29, 3) := by decide +kernel
theorem dX9_walkAhead_6 : decode cX9_walkAhead 6 = .ok (.iconst 1, 1) := by decide +kernel
theorem dX9_walkAhead_7 : decode cX9_walkAhead 7 = .ok (.invokevirtual 25, 3) := by decide +kernel
theorem dX9_walkAhead_10 : decode cX9_walkAhead 10 = .ok (.istore_n 2, 1) := by decide +kernel
theorem dX9_walkAhead_11 : decode cX9_walkAhead 11 = .ok (.iload_n 2, 1) := by decide +kernel
theorem dX9_walkAhead_12 : decode cX9_walkAhead 12 = .ok (.ifCond .ge 5, 3) := by decide +kernel
theorem dX9_walkAhead_15 : decode cX9_walkAhead 15 = .ok (.iload_n 2, 1) := by decide +kernel
theorem dX9_walkAhead_16 : decode cX9_walkAhead 16 = .ok (.ireturn, 1) := by decide +kernel
theorem dX9_walkAhead_17 : decode cX9_walkAhead 17 = .ok (.aload_n 1, 1) := by decide +kernel
theorem dX9_walkAhead_18 : decode cX9_walkAhead 18 = .ok (.invokevirtual 32, 3) := by decide +kernel
theorem dX9_walkAhead_21 : decode cX9_walkAhead 21 = .ok (.ifCond .ne 6, 3) := by decide +kernel
theorem dX9_walkAhead_24 : decode cX9_walkAhead 24 = .ok (.bipush (-9), 2) := by decide +kernel
theorem dX9_walkAhead_26 : decode cX9_walkAhead 26 = .ok (.ireturn, 1) := by decide +kernel
theorem dX9_walkAhead_27 : decode cX9_walkAhead 27 = .ok (.aload_n 0, 1) := by decide +kernel
theorem dX9_walkAhead_28 : decode cX9_walkAhead 28 = .ok (.getfield 15, 3) := by decide +kernel
theorem dX9_walkAhead_31 : decode cX9_walkAhead 31 = .ok (.iload_n 2, 1) := by decide +kernel
theorem dX9_walkAhead_32 : decode cX9_walkAhead 32 = .ok (.invokevirtual 36, 3) := by decide +kernel
theorem dX9_walkAhead_35 : decode cX9_walkAhead 35 = .ok (.iconst 2, 1) := by decide +kernel
theorem dX9_walkAhead_36 : decode cX9_walkAhead 36 = .ok (.if_icmp .ne 7, 3) := by decide +kernel
theorem dX9_walkAhead_39 : decode cX9_walkAhead 39 = .ok (.iload_n 2, 1) := by decide +kernel
theorem dX9_walkAhead_40 : decode cX9_walkAhead 40 = .ok (.goto 5, 3) := by decide +kernel
theorem dX9_walkAhead_43 : decode cX9_walkAhead 43 = .ok (.bipush (-3), 2) := by decide +kernel
theorem dX9_walkAhead_45 : decode cX9_walkAhead 45 = .ok (.ireturn, 1) := by decide +kernel
set_option maxRecDepth 100000 in
set_option maxHeartbeats 1000000 in
theorem j_X9_walkAhead_45 {p : Program} {l : Launch} {e : Env} {s : State} {m : MethodId} {args : Array Value} {below : List Frame} {meth : Method} {c : Code} {D : va_G} {aC : Nat → ClassId} {b0 fu : Nat} {σ0 τ : tM} {v : Int32}  (C : tCx p l s m args meth c yX9_walkAhead.cls cX9_walkAhead 3 (some .int) D aC b0 σ0) (htab : ∀ x ∈ c.exceptionTable.toList, False) (hin : meth.name = yX9_walkAhead.name)  {s0 : Int32} {σ : tM} (hm : J_X9_walkAhead_45 b0 fu  s0 σ = some (v, τ)) : tX p l e s m args below meth c 3 5 128 D aC b0 σ0 (.inl (some (.int v))) τ 45 [] [.int (s0)] σ := by
  unfold J_X9_walkAhead_45 at hm
  obtain ⟨rfl, rfl⟩ := ret_e hm
  exact zx_iret C rfl rfl rfl dX9_walkAhead_45
set_option maxRecDepth 100000 in
set_option maxHeartbeats 1000000 in
theorem c_X9_walkAhead {l : Launch} {D : va_G} {aC : Nat → ClassId} {b0 fu : Nat} {a0 : Nat} {p0 : Nat} {σ τ : tM} {v : Int32} (hm : m_X9_walkAhead b0 fu a0 p0 σ = some (v, τ)) : tMt l D aC b0 yX9_walkAhead (Cond.code yX9_walkAhead cX9_walkAhead 3 (some .int)) 5 128 [.ref (a0), .ref (p0)] σ (.inl (some (.int v))) τ := by
  unfold m_X9_walkAhead at hm
  obtain ⟨hg, hm⟩ := grw_e hm
  refine tMt_of (n := 0) rfl (Nat.le_of_ble_eq_true rfl) hg ?_
  intro p e s m below meth c C htab hin
  refine zx_lv [0, 1] [(0, .ref (a0)), (1, .ref (p0))] rfl ?_
  refine zx_aload_n C dX9_walkAhead_0 0 rfl ?_
  refine zx_aload_n C dX9_walkAhead_1 1 rfl ?_
  refine zx_aload_n C dX9_walkAhead_2 1 rfl ?_
  obtain ⟨k1, i2, hm⟩ := ckO_e hm
  refine zx_get (j := 2) C tC_3 k1 i2 ⟨by decide, Or.inr ⟨_, W_2_64⟩⟩ dX9_walkAhead_3 (.int (tI (σ) (p0) 2)) rfl ?_
  refine zx_iconst (v := 1) C dX9_walkAhead_6 (by decide) ?_
  obtain ⟨k3, i4, hm⟩ := ckO_e hm
  obtain ⟨v5, ρ6, h7, hm⟩ := cll_e hm
  refine zx_callV (σ := σ) C [.ref (p0), .int (tI (σ) (p0) 2), .int (1)] tC_9 k3 i4 Y_X9_walk W_4_73 W_4_75 Wp_21 (c_X9_walk h7) (by decide) (by decide) rfl (Nat.le_of_ble_eq_true rfl) dX9_walkAhead_7 rfl ?_
  refine zx_istore_n C [(2, .int (v5)), (0, .ref (a0)), (1, .ref (p0))] dX9_walkAhead_10 rfl (by decide) rfl ?_
  refine zx_iload_n C dX9_walkAhead_11 0 rfl ?_
  refine zx_if_ge C 17 dX9_walkAhead_12 (by decide) (fun c8 => ?_) (fun c8 => ?_)
  · replace hm := ip_e hm c8
    refine zx_aload_n C dX9_walkAhead_17 2 rfl ?_
    obtain ⟨k9, i10, hm⟩ := ckO_e hm
    obtain ⟨v11, ρ12, h13, hm⟩ := cll_e hm
    refine zx_callV (σ := ρ6) C [] tC_3 k9 i10 Y_X3_hasOwnLastName W_4_140 W_4_141 W_4_142 (c_X3_hasOwnLastName h13) (by decide) (by decide) rfl (Nat.le_of_ble_eq_true rfl) dX9_walkAhead_18 rfl ?_
    refine zx_if_ne C 27 dX9_walkAhead_21 (by decide) (fun c14 => ?_) (fun c14 => ?_)
    · replace hm := in_e hm c14
      refine zx_aload_n C dX9_walkAhead_27 1 rfl ?_
      obtain ⟨k15, i16, hm⟩ := ckO_e hm
      obtain ⟨a17, h18, hm⟩ := osm_e hm
      refine zx_get (j := 0) C tC_9 k15 i16 ⟨by decide, Or.inl W_2_20⟩ dX9_walkAhead_28 (.ref a17) (rf_s h18) ?_
      refine zx_iload_n C dX9_walkAhead_31 0 rfl ?_
      obtain ⟨k19, i20, hm⟩ := ckO_e hm
      obtain ⟨v21, ρ22, h23, hm⟩ := cll_e hm
      refine zx_callV (σ := ρ12) C [.int (v5)] tC_8 k19 i20 Y_X8_kind W_4_92 W_3_80 W_3_81 (c_X8_kind h23) (by decide) (by decide) rfl (Nat.le_of_ble_eq_true rfl) dX9_walkAhead_32 rfl ?_
      refine zx_iconst (v := 2) C dX9_walkAhead_35 (by decide) ?_
      refine zx_icmp_ne C 43 dX9_walkAhead_36 (by decide) (fun c24 => ?_) (fun c24 => ?_)
      · replace hm := in_e hm c24
        refine zx_bipush (v := (-3)) C dX9_walkAhead_43 (by decide) ?_
        exact zx_lv [] [] rfl (j_X9_walkAhead_45 C htab hin    hm)
      · replace hm := ip_e hm c24
        refine zx_iload_n C dX9_walkAhead_39 0 rfl ?_
        refine zx_goto C 45 dX9_walkAhead_40 (by decide) ?_
        exact zx_lv [] [] rfl (j_X9_walkAhead_45 C htab hin    hm)
    · replace hm := ip_e hm c14
      refine zx_bipush (v := (-9)) C dX9_walkAhead_24 (by decide) ?_
      obtain ⟨rfl, rfl⟩ := ret_e hm
      exact zx_iret C rfl rfl rfl dX9_walkAhead_26
  · replace hm := in_e hm c8
    refine zx_iload_n C dX9_walkAhead_15 0 rfl ?_
    obtain ⟨rfl, rfl⟩ := ret_e hm
    exact zx_iret C rfl rfl rfl dX9_walkAhead_16
abbrev cX10_placeForNew : ByteArray := prog_1_method_10_code
def yX10_placeForNew : MethodName := ⟨"SyncTree", "placeForNew", "()I"⟩
theorem Y_X10_placeForNew : tY yX10_placeForNew cX10_placeForNew 2 (some .int) 0 := ⟨W_4_68, W_1_1, ⟨by decide +kernel, by decide +kernel⟩, by decide +kernel⟩
theorem dX10_placeForNew_0 : decode cX10_placeForNew 0 = .ok (.aload_n 0, 1) := by decide +kernel
theorem dX10_placeForNew_1 : decode cX10_placeForNew 1 = .ok (.getfield 55, 3) := by decide +kernel
theorem dX10_placeForNew_4 : decode cX10_placeForNew 4 = .ok (.aload_n 0, 1) := by decide +kernel
theorem dX10_placeForNew_5 : decode cX10_placeForNew 5 = .ok (.getfield 69, 3) := by decide +kernel
theorem dX10_placeForNew_8 : decode cX10_placeForNew 8 = .ok (.invokevirtual 153, 3) := by decide +kernel
theorem dX10_placeForNew_11 : decode cX10_placeForNew 11 = .ok (.istore_n 1, 1) := by decide +kernel
theorem dX10_placeForNew_12 : decode cX10_placeForNew 12 = .ok (.iload_n 1, 1) := by decide +kernel
theorem dX10_placeForNew_13 : decode cX10_placeForNew 13 = .ok (.ifCond .ge 5, 3) := by decide +kernel
theorem dX10_placeForNew_16 : decode cX10_placeForNew 16 = .ok (.iload_n 1, 1) := by decide +kernel
theorem dX10_placeForNew_17 : decode cX10_placeForNew 17 = .ok (.ireturn, 1) := by decide +kernel
theorem dX10_placeForNew_18 : decode cX10_placeForNew 18 = .ok (.aload_n 0, 1) := by decide +kernel
theorem dX10_placeForNew_19 : decode cX10_placeForNew 19 = .ok (.getfield 28, 3) := by decide +kernel
theorem dX10_placeForNew_22 : decode cX10_placeForNew 22 = .ok (.iload_n 1, 1) := by decide +kernel
theorem dX10_placeForNew_23 : decode cX10_placeForNew 23 = .ok (.aload_n 0, 1) := by decide +kernel
theorem dX10_placeForNew_24 : decode cX10_placeForNew 24 = .ok (.getfield 69, 3) := by decide +kernel
theorem dX10_placeForNew_27 : decode cX10_placeForNew 27 = .ok (.invokevirtual 157, 3) := by decide +kernel
theorem dX10_placeForNew_30 : decode cX10_placeForNew 30 = .ok (.ifCond .lt 6, 3) := by decide +kernel
theorem dX10_placeForNew_33 : decode cX10_placeForNew 33 = .ok (.bipush (-2), 2) := by decide +kernel
theorem dX10_placeForNew_35 : decode cX10_placeForNew 35 = .ok (.ireturn, 1) := by decide +kernel
theorem dX10_placeForNew_36 : decode cX10_placeForNew 36 = .ok (.aload_n 0, 1) := by decide +kernel
theorem dX10_placeForNew_37 : decode cX10_placeForNew 37 = .ok (.getfield 69, 3) := by decide +kernel
theorem dX10_placeForNew_40 : decode cX10_placeForNew 40 = .ok (.getfield 161, 3) := by decide +kernel
theorem dX10_placeForNew_43 : decode cX10_placeForNew 43 = .ok (.bipush 28, 2) := by decide +kernel
theorem dX10_placeForNew_45 : decode cX10_placeForNew 45 = .ok (.if_icmp .le 8, 3) := by decide +kernel
theorem dX10_placeForNew_48 : decode cX10_placeForNew 48 = .ok (.bipush (-7), 2) := by decide +kernel
theorem dX10_placeForNew_50 : decode cX10_placeForNew 50 = .ok (.goto 4, 3) := by decide +kernel
theorem dX10_placeForNew_53 : decode cX10_placeForNew 53 = .ok (.iload_n 1, 1) := by decide +kernel
theorem dX10_placeForNew_54 : decode cX10_placeForNew 54 = .ok (.ireturn, 1) := by decide +kernel
set_option maxRecDepth 100000 in
set_option maxHeartbeats 1000000 in
theorem j_X10_placeForNew_54 {p : Program} {l : Launch} {e : Env} {s : State} {m : MethodId} {args : Array Value} {below : List Frame} {meth : Method} {c : Code} {D : va_G} {aC : Nat → ClassId} {b0 fu : Nat} {σ0 τ : tM} {v : Int32}  (C : tCx p l s m args meth c yX10_placeForNew.cls cX10_placeForNew 2 (some .int) D aC b0 σ0) (htab : ∀ x ∈ c.exceptionTable.toList, False) (hin : meth.name = yX10_placeForNew.name)  {s0 : Int32} {σ : tM} (hm : J_X10_placeForNew_54 b0 fu  s0 σ = some (v, τ)) : tX p l e s m args below meth c 2 6 150 D aC b0 σ0 (.inl (some (.int v))) τ 54 [] [.int (s0)] σ := by
  unfold J_X10_placeForNew_54 at hm
  obtain ⟨rfl, rfl⟩ := ret_e hm
  exact zx_iret C rfl rfl rfl dX10_placeForNew_54
set_option maxRecDepth 100000 in
set_option maxHeartbeats 1000000 in
theorem c_X10_placeForNew {l : Launch} {D : va_G} {aC : Nat → ClassId} {b0 fu : Nat} {a0 : Nat} {σ τ : tM} {v : Int32} (hm : m_X10_placeForNew b0 fu a0 σ = some (v, τ)) : tMt l D aC b0 yX10_placeForNew (Cond.code yX10_placeForNew cX10_placeForNew 2 (some .int)) 6 150 [.ref (a0)] σ (.inl (some (.int v))) τ := by
  unfold m_X10_placeForNew at hm
  obtain ⟨hg, hm⟩ := grw_e hm
  refine tMt_of (n := 0) rfl (Nat.le_of_ble_eq_true rfl) hg ?_
  intro p e s m below meth c C htab hin
  refine zx_lv [0] [(0, .ref (a0))] rfl ?_
  refine zx_aload_n C dX10_placeForNew_0 0 rfl ?_
  obtain ⟨k1, i2, hm⟩ := ckO_e hm
  obtain ⟨a3, h4, hm⟩ := osm_e hm
  refine zx_get (j := 5) C tC_10 k1 i2 ⟨by decide, Or.inl W_2_218⟩ dX10_placeForNew_1 (.ref a3) (rf_s h4) ?_
  refine zx_aload_n C dX10_placeForNew_4 0 rfl ?_
  obtain ⟨a5, h6, hm⟩ := osm_e hm
  refine zx_get (j := 7) C tC_10 k1 i2 ⟨by decide, Or.inl W_2_220⟩ dX10_placeForNew_5 (.ref a5) (rf_s h6) ?_
  obtain ⟨k7, i8, hm⟩ := ckO_e hm
  obtain ⟨v9, ρ10, h11, hm⟩ := cll_e hm
  refine zx_callV (σ := σ) C [.ref (a5)] tC_9 k7 i8 Y_X9_walkAhead W_4_69 W_4_70 W_4_71 (c_X9_walkAhead h11) (by decide) (by decide) rfl (Nat.le_of_ble_eq_true rfl) dX10_placeForNew_8 rfl ?_
  refine zx_istore_n C [(1, .int (v9)), (0, .ref (a0))] dX10_placeForNew_11 rfl (by decide) rfl ?_
  refine zx_iload_n C dX10_placeForNew_12 0 rfl ?_
  refine zx_if_ge C 18 dX10_placeForNew_13 (by decide) (fun c12 => ?_) (fun c12 => ?_)
  · replace hm := ip_e hm c12
    refine zx_aload_n C dX10_placeForNew_18 1 rfl ?_
    obtain ⟨k13, i14, hm⟩ := ckO_e hm
    obtain ⟨a15, h16, hm⟩ := osm_e hm
    refine zx_get (j := 2) C tC_10 k13 i14 ⟨by decide, Or.inl W_2_215⟩ dX10_placeForNew_19 (.ref a15) (rf_s h16) ?_
    refine zx_iload_n C dX10_placeForNew_22 0 rfl ?_
    refine zx_aload_n C dX10_placeForNew_23 1 rfl ?_
    obtain ⟨a17, h18, hm⟩ := osm_e hm
    refine zx_get (j := 7) C tC_10 k13 i14 ⟨by decide, Or.inl W_2_220⟩ dX10_placeForNew_24 (.ref a17) (rf_s h18) ?_
    obtain ⟨k19, i20, hm⟩ := ckO_e hm
    obtain ⟨v21, ρ22, h23, hm⟩ := cll_e hm
    refine zx_callV (σ := ρ10) C [.int (v9), .ref (a17)] tC_8 k19 i20 Y_X8_findLast W_4_145 W_4_146 W_4_147 (c_X8_findLast h23) (by decide) (by decide) rfl (Nat.le_of_ble_eq_true rfl) dX10_placeForNew_27 rfl ?_
    refine zx_if_lt C 36 dX10_placeForNew_30 (by decide) (fun c24 => ?_) (fun c24 => ?_)
    · replace hm := ip_e hm c24
      refine zx_aload_n C dX10_placeForNew_36 1 rfl ?_
      obtain ⟨k25, i26, hm⟩ := ckO_e hm
      obtain ⟨a27, h28, hm⟩ := osm_e hm
      refine zx_get (j := 7) C tC_10 k25 i26 ⟨by decide, Or.inl W_2_220⟩ dX10_placeForNew_37 (.ref a27) (rf_s h28) ?_
      obtain ⟨k29, i30, hm⟩ := ckO_e hm
      refine zx_get (j := 3) C tC_3 k29 i30 ⟨by decide, Or.inr ⟨_, W_2_67⟩⟩ dX10_placeForNew_40 (.int (tI (ρ22) (a27) 3)) rfl ?_
      refine zx_bipush (v := 28) C dX10_placeForNew_43 (by decide) ?_
      refine zx_icmp_le C 53 dX10_placeForNew_45 (by decide) (fun c31 => ?_) (fun c31 => ?_)
      · replace hm := ip_e hm c31
        refine zx_iload_n C dX10_placeForNew_53 0 rfl ?_
        exact zx_lv [] [] rfl (j_X10_placeForNew_54 C htab hin    hm)
      · replace hm := in_e hm c31
        refine zx_bipush (v := (-7)) C dX10_placeForNew_48 (by decide) ?_
        refine zx_goto C 54 dX10_placeForNew_50 (by decide) ?_
        exact zx_lv [] [] rfl (j_X10_placeForNew_54 C htab hin    hm)
    · replace hm := in_e hm c24
      refine zx_bipush (v := (-2)) C dX10_placeForNew_33 (by decide) ?_
      obtain ⟨rfl, rfl⟩ := ret_e hm
      exact zx_iret C rfl rfl rfl dX10_placeForNew_35
  · replace hm := in_e hm c12
    refine zx_iload_n C dX10_placeForNew_16 0 rfl ?_
    obtain ⟨rfl, rfl⟩ := ret_e hm
    exact zx_iret C rfl rfl rfl dX10_placeForNew_17
abbrev cX10_entryOfLast : ByteArray := prog_1_method_14_code
def yX10_entryOfLast : MethodName := ⟨"SyncTree", "entryOfLast", "(LSyncTree$PathText;)I"⟩
theorem Y_X10_entryOfLast : tY yX10_entryOfLast cX10_entryOfLast 3 (some .int) 1 := ⟨W_5_31, W_1_1, ⟨by decide +kernel, by decide +kernel⟩, by decide +kernel⟩
theorem dX10_entryOfLast_0 : decode cX10_entryOfLast 0 = .ok (.aload_n 1, 1) := by decide +kernel
theorem dX10_entryOfLast_1 : decode cX10_entryOfLast 1 = .ok (.aload_n 0, 1) := by decide +kernel
theorem dX10_entryOfLast_2 : decode cX10_entryOfLast 2 = .ok (.getfield 55, 3) := by decide +kernel
theorem dX10_entryOfLast_5 : decode cX10_entryOfLast 5 = .ok (.aload_n 1, 1) := by decide +kernel
theorem dX10_entryOfLast_6 : decode cX10_entryOfLast 6 = .ok (.invokevirtual 153, 3) := by decide +kernel
theorem dX10_entryOfLast_9 : decode cX10_entryOfLast 9 = .ok (.putfield 181, 3) := by decide +kernel
theorem dX10_entryOfLast_12 : decode cX10_entryOfLast 12 = .ok (.aload_n 1, 1) := by decide +kernel
theorem dX10_entryOfLast_13 : decode cX10_entryOfLast 13 = .ok (.getfield 181, 3) := by decide +kernel
theorem dX10_entryOfLast_16 : decode cX10_entryOfLast 16 = .ok (.ifCond .ge 8, 3) := by decide +kernel
theorem dX10_entryOfLast_19 : decode cX10_entryOfLast 19 = .ok (.aload_n 1, 1) := by decide +kernel
theorem dX10_entryOfLast_20 : decode cX10_entryOfLast 20 = .ok (.getfield 181, 3) := by decide +kernel
theorem dX10_entryOfLast_23 : decode cX10_entryOfLast 23 = .ok (.ireturn, 1) := by decide +kernel
theorem dX10_entryOfLast_24 : decode cX10_entryOfLast 24 = .ok (.aload_n 1, 1) := by decide +kernel
theorem dX10_entryOfLast_25 : decode cX10_entryOfLast 25 = .ok (.getfield 161, 3) := by decide +kernel
theorem dX10_entryOfLast_28 : decode cX10_entryOfLast 28 = .ok (.bipush 28, 2) := by decide +kernel
theorem dX10_entryOfLast_30 : decode cX10_entryOfLast 30 = .ok (.if_icmp .le 6, 3) := by decide +kernel
theorem dX10_entryOfLast_33 : decode cX10_entryOfLast 33 = .ok (.bipush (-7), 2) := by decide +kernel
theorem dX10_entryOfLast_35 : decode cX10_entryOfLast 35 = .ok (.ireturn, 1) := by decide +kernel
theorem dX10_entryOfLast_36 : decode cX10_entryOfLast 36 = .ok (.aload_n 0, 1) := by decide +kernel
theorem dX10_entryOfLast_37 : decode cX10_entryOfLast 37 = .ok (.getfield 28, 3) := by decide +kernel
theorem dX10_entryOfLast_40 : decode cX10_entryOfLast 40 = .ok (.aload_n 1, 1) := by decide +kernel
theorem dX10_entryOfLast_41 : decode cX10_entryOfLast 41 = .ok (.getfield 181, 3) := by decide +kernel
theorem dX10_entryOfLast_44 : decode cX10_entryOfLast 44 = .ok (.aload_n 1, 1) := by decide +kernel
theorem dX10_entryOfLast_45 : decode cX10_entryOfLast 45 = .ok (.invokevirtual 157, 3) := by decide +kernel
theorem dX10_entryOfLast_48 : decode cX10_entryOfLast 48 = .ok (.istore_n 2, 1) := by decide +kernel
theorem dX10_entryOfLast_49 : decode cX10_entryOfLast 49 = .ok (.iload_n 2, 1) := by decide +kernel
theorem dX10_entryOfLast_50 : decode cX10_entryOfLast 50 = .ok (.ifCond .ge 7, 3) := by decide +kernel
theorem dX10_entryOfLast_53 : decode cX10_entryOfLast 53 = .ok (.iconst (-1), 1) := by decide +kernel
theorem dX10_entryOfLast_54 : decode cX10_entryOfLast 54 = .ok (.goto 4, 3) := by decide +kernel
theorem dX10_entryOfLast_57 : decode cX10_entryOfLast 57 = .ok (.iload_n 2, 1) := by decide +kernel
theorem dX10_entryOfLast_58 : decode cX10_entryOfLast 58 = .ok (.ireturn, 1) := by decide +kernel
set_option maxRecDepth 100000 in
set_option maxHeartbeats 1000000 in
theorem j_X10_entryOfLast_58 {p : Program} {l : Launch} {e : Env} {s : State} {m : MethodId} {args : Array Value} {below : List Frame} {meth : Method} {c : Code} {D : va_G} {aC : Nat → ClassId} {b0 fu : Nat} {σ0 τ : tM} {v : Int32}  (C : tCx p l s m args meth c yX10_entryOfLast.cls cX10_entryOfLast 3 (some .int) D aC b0 σ0) (htab : ∀ x ∈ c.exceptionTable.toList, False) (hin : meth.name = yX10_entryOfLast.name)  {s0 : Int32} {σ : tM} (hm : J_X10_entryOfLast_58 b0 fu  s0 σ = some (v, τ)) : tX p l e s m args below meth c 3 6 150 D aC b0 σ0 (.inl (some (.int v))) τ 58 [] [.int (s0)] σ := by
  unfold J_X10_entryOfLast_58 at hm
  obtain ⟨rfl, rfl⟩ := ret_e hm
  exact zx_iret C rfl rfl rfl dX10_entryOfLast_58
set_option maxRecDepth 100000 in
set_option maxHeartbeats 1000000 in
theorem c_X10_entryOfLast {l : Launch} {D : va_G} {aC : Nat → ClassId} {b0 fu : Nat} {a0 : Nat} {p0 : Nat} {σ τ : tM} {v : Int32} (hm : m_X10_entryOfLast b0 fu a0 p0 σ = some (v, τ)) : tMt l D aC b0 yX10_entryOfLast (Cond.code yX10_entryOfLast cX10_entryOfLast 3 (some .int)) 6 150 [.ref (a0), .ref (p0)] σ (.inl (some (.int v))) τ := by
  unfold m_X10_entryOfLast at hm
  obtain ⟨hg, hm⟩ := grw_e hm
  refine tMt_of (n := 0) rfl (Nat.le_of_ble_eq_true rfl) hg ?_
  intro p e s m below meth c C htab hin
  refine zx_lv [0, 1] [(0, .ref (a0)), (1, .ref (p0))] rfl ?_
  refine zx_aload_n C dX10_entryOfLast_0 1 rfl ?_
  refine zx_aload_n C dX10_entryOfLast_1 0 rfl ?_
  obtain ⟨k1, i2, hm⟩ := ckO_e hm
  obtain ⟨a3, h4, hm⟩ := osm_e hm
  refine zx_get (j := 5) C tC_10 k1 i2 ⟨by decide, Or.inl W_2_218⟩ dX10_entryOfLast_2 (.ref a3) (rf_s h4) ?_
  refine zx_aload_n C dX10_entryOfLast_5 1 rfl ?_
  obtain ⟨k5, i6, hm⟩ := ckO_e hm
  obtain ⟨v7, ρ8, h9, hm⟩ := cll_e hm
  refine zx_callV (σ := σ) C [.ref (p0)] tC_9 k5 i6 Y_X9_walkAhead W_4_69 W_4_70 W_4_71 (c_X9_walkAhead h9) (by decide) (by decide) rfl (Nat.le_of_ble_eq_true rfl) dX10_entryOfLast_6 rfl ?_
  obtain ⟨k10, i11, hm⟩ := ckO_e hm
  refine zx_put (j := 4) (ρ := sI (ρ8) (p0) 4 (v7)) C tC_3 k10 i11 ⟨by decide, Or.inr ⟨_, W_2_69⟩⟩ rfl rfl rfl (sI_ok (fun _ => rfl)) dX10_entryOfLast_9 ?_
  refine zx_aload_n C dX10_entryOfLast_12 1 rfl ?_
  refine zx_get (j := 4) C tC_3 k10 i11 ⟨by decide, Or.inr ⟨_, W_2_69⟩⟩ dX10_entryOfLast_13 (.int (tI (sI (ρ8) (p0) 4 (v7)) (p0) 4)) rfl ?_
  refine zx_if_ge C 24 dX10_entryOfLast_16 (by decide) (fun c12 => ?_) (fun c12 => ?_)
  · replace hm := ip_e hm c12
    refine zx_aload_n C dX10_entryOfLast_24 1 rfl ?_
    refine zx_get (j := 3) C tC_3 k10 i11 ⟨by decide, Or.inr ⟨_, W_2_67⟩⟩ dX10_entryOfLast_25 (.int (tI (sI (ρ8) (p0) 4 (v7)) (p0) 3)) rfl ?_
    refine zx_bipush (v := 28) C dX10_entryOfLast_28 (by decide) ?_
    refine zx_icmp_le C 36 dX10_entryOfLast_30 (by decide) (fun c13 => ?_) (fun c13 => ?_)
    · replace hm := ip_e hm c13
      refine zx_aload_n C dX10_entryOfLast_36 0 rfl ?_
      obtain ⟨k14, i15, hm⟩ := ckO_e hm
      obtain ⟨a16, h17, hm⟩ := osm_e hm
      refine zx_get (j := 2) C tC_10 k14 i15 ⟨by decide, Or.inl W_2_215⟩ dX10_entryOfLast_37 (.ref a16) (rf_s h17) ?_
      refine zx_aload_n C dX10_entryOfLast_40 1 rfl ?_
      refine zx_get (j := 4) C tC_3 k10 i11 ⟨by decide, Or.inr ⟨_, W_2_69⟩⟩ dX10_entryOfLast_41 (.int (tI (sI (ρ8) (p0) 4 (v7)) (p0) 4)) rfl ?_
      refine zx_aload_n C dX10_entryOfLast_44 1 rfl ?_
      obtain ⟨k18, i19, hm⟩ := ckO_e hm
      obtain ⟨v20, ρ21, h22, hm⟩ := cll_e hm
      refine zx_callV (σ := sI (ρ8) (p0) 4 (v7)) C [.int (tI (sI (ρ8) (p0) 4 (v7)) (p0) 4), .ref (p0)] tC_8 k18 i19 Y_X8_findLast W_4_145 W_4_146 W_4_147 (c_X8_findLast h22) (by decide) (by decide) rfl (Nat.le_of_ble_eq_true rfl) dX10_entryOfLast_45 rfl ?_
      refine zx_istore_n C [(2, .int (v20)), (0, .ref (a0)), (1, .ref (p0))] dX10_entryOfLast_48 rfl (by decide) rfl ?_
      refine zx_iload_n C dX10_entryOfLast_49 0 rfl ?_
      refine zx_if_ge C 57 dX10_entryOfLast_50 (by decide) (fun c23 => ?_) (fun c23 => ?_)
      · replace hm := ip_e hm c23
        refine zx_iload_n C dX10_entryOfLast_57 0 rfl ?_
        exact zx_lv [] [] rfl (j_X10_entryOfLast_58 C htab hin    hm)
      · replace hm := in_e hm c23
        refine zx_iconst (v := (-1)) C dX10_entryOfLast_53 (by decide) ?_
        refine zx_goto C 58 dX10_entryOfLast_54 (by decide) ?_
        exact zx_lv [] [] rfl (j_X10_entryOfLast_58 C htab hin    hm)
    · replace hm := in_e hm c13
      refine zx_bipush (v := (-7)) C dX10_entryOfLast_33 (by decide) ?_
      obtain ⟨rfl, rfl⟩ := ret_e hm
      exact zx_iret C rfl rfl rfl dX10_entryOfLast_35
  · replace hm := in_e hm c12
    refine zx_aload_n C dX10_entryOfLast_19 1 rfl ?_
    refine zx_get (j := 4) C tC_3 k10 i11 ⟨by decide, Or.inr ⟨_, W_2_69⟩⟩ dX10_entryOfLast_20 (.int (tI (sI (ρ8) (p0) 4 (v7)) (p0) 4)) rfl ?_
    obtain ⟨rfl, rfl⟩ := ret_e hm
    exact zx_iret C rfl rfl rfl dX10_entryOfLast_23
