abbrev cX8_hasPlaceForEntry : ByteArray := prog_10_method_49_code
def yX8_hasPlaceForEntry : MethodName := ⟨"SyncTree$Tree", "hasPlaceForEntry", "(I)Z"⟩
theorem Y_X8_hasPlaceForEntry : tY yX8_hasPlaceForEntry cX8_hasPlaceForEntry 3 (some .boolean) 1 := ⟨W_4_161, W_1_4, ⟨by decide +kernel, by decide +kernel⟩, by decide +kernel⟩
theorem dX8_hasPlaceForEntry_0 : decode cX8_hasPlaceForEntry 0 = .ok (.aload_n 0, 1) := by decide +kernel
theorem dX8_hasPlaceForEntry_1 : decode cX8_hasPlaceForEntry 1 = .ok (.iload_n 1, 1) := by decide +kernel
theorem dX8_hasPlaceForEntry_2 : decode cX8_hasPlaceForEntry 2 = .ok (.invokevirtual 185, 3) := by decide +kernel
theorem dX8_hasPlaceForEntry_5 : decode cX8_hasPlaceForEntry 5 = .ok (.bipush 8, 2) := by decide +kernel
theorem dX8_hasPlaceForEntry_7 : decode cX8_hasPlaceForEntry 7 = .ok (.idiv, 1) := by decide +kernel
theorem dX8_hasPlaceForEntry_8 : decode cX8_hasPlaceForEntry 8 = .ok (.istore_n 2, 1) := by decide +kernel
theorem dX8_hasPlaceForEntry_9 : decode cX8_hasPlaceForEntry 9 = .ok (.aload_n 0, 1) := by decide +kernel
theorem dX8_hasPlaceForEntry_10 : decode cX8_hasPlaceForEntry 10 = .ok (.iload_n 1, 1) := by decide +kernel
theorem dX8_hasPlaceForEntry_11 : decode cX8_hasPlaceForEntry 11 = .ok (.iload_n 2, 1) := by decide +kernel
theorem dX8_hasPlaceForEntry_12 : decode cX8_hasPlaceForEntry 12 = .ok (.iload_n 2, 1) := by decide +kernel
theorem dX8_hasPlaceForEntry_13 : decode cX8_hasPlaceForEntry 13 = .ok (.invokevirtual 188, 3) := by decide +kernel
theorem dX8_hasPlaceForEntry_16 : decode cX8_hasPlaceForEntry 16 = .ok (.aload_n 0, 1) := by decide +kernel
theorem dX8_hasPlaceForEntry_17 : decode cX8_hasPlaceForEntry 17 = .ok (.getfield 15, 3) := by decide +kernel
theorem dX8_hasPlaceForEntry_20 : decode cX8_hasPlaceForEntry 20 = .ok (.getfield 192, 3) := by decide +kernel
theorem dX8_hasPlaceForEntry_23 : decode cX8_hasPlaceForEntry 23 = .ok (.if_icmp .gt 7, 3) := by decide +kernel
theorem dX8_hasPlaceForEntry_26 : decode cX8_hasPlaceForEntry 26 = .ok (.iconst 1, 1) := by decide +kernel
theorem dX8_hasPlaceForEntry_27 : decode cX8_hasPlaceForEntry 27 = .ok (.goto 4, 3) := by decide +kernel
theorem dX8_hasPlaceForEntry_30 : decode cX8_hasPlaceForEntry 30 = .ok (.iconst 0, 1) := by decide +kernel
theorem dX8_hasPlaceForEntry_31 : decode cX8_hasPlaceForEntry 31 = .ok (.ireturn, 1) := by decide +kernel
set_option maxRecDepth 100000 in
set_option maxHeartbeats 1000000 in
theorem j_X8_hasPlaceForEntry_31 {p : Program} {l : Launch} {e : Env} {s : State} {m : MethodId} {args : Array Value} {below : List Frame} {meth : Method} {c : Code} {D : va_G} {aC : Nat → ClassId} {b0 fu : Nat} {σ0 τ : tM} {v : Int32}  (C : tCx p l s m args meth c yX8_hasPlaceForEntry.cls cX8_hasPlaceForEntry 3 (some .boolean) D aC b0 σ0) (htab : ∀ x ∈ c.exceptionTable.toList, False) (hin : meth.name = yX8_hasPlaceForEntry.name)  {s0 : Int32} {σ : tM} (hm : J_X8_hasPlaceForEntry_31 b0 fu  s0 σ = some (v, τ)) : tX p l e s m args below meth c 3 4 92 D aC b0 σ0 (.inl (some (.int v))) τ 31 [] [.int (s0)] σ := by
  unfold J_X8_hasPlaceForEntry_31 at hm
  obtain ⟨h19, hm⟩ := ckZ_e hm
  obtain ⟨rfl, rfl⟩ := ret_e hm
  exact zx_zret C rfl h19 rfl rfl dX8_hasPlaceForEntry_31
set_option maxRecDepth 100000 in
set_option maxHeartbeats 1000000 in
theorem c_X8_hasPlaceForEntry {l : Launch} {D : va_G} {aC : Nat → ClassId} {b0 fu : Nat} {a0 : Nat} {p0 : Int32} {σ τ : tM} {v : Int32} (hm : m_X8_hasPlaceForEntry b0 fu a0 p0 σ = some (v, τ)) : tMt l D aC b0 yX8_hasPlaceForEntry (Cond.code yX8_hasPlaceForEntry cX8_hasPlaceForEntry 3 (some .boolean)) 4 92 [.ref (a0), .int (p0)] σ (.inl (some (.int v))) τ := by
  unfold m_X8_hasPlaceForEntry at hm
  obtain ⟨hg, hm⟩ := grw_e hm
  refine tMt_of (n := 0) rfl (Nat.le_of_ble_eq_true rfl) hg ?_
  intro p e s m below meth c C htab hin
  refine zx_lv [0, 1] [(0, .ref (a0)), (1, .int (p0))] rfl ?_
  refine zx_aload_n C dX8_hasPlaceForEntry_0 0 rfl ?_
  refine zx_iload_n C dX8_hasPlaceForEntry_1 1 rfl ?_
  obtain ⟨k1, i2, hm⟩ := ckO_e hm
  obtain ⟨v3, ρ4, h5, hm⟩ := cll_e hm
  refine zx_callV (σ := σ) C [.int (p0)] tC_8 k1 i2 Y_X8_placeForEntry W_4_162 W_4_164 Wp_28 (c_X8_placeForEntry h5) (by decide) (by decide) rfl (Nat.le_of_ble_eq_true rfl) dX8_hasPlaceForEntry_2 rfl ?_
  refine zx_bipush (v := 8) C dX8_hasPlaceForEntry_5 (by decide) ?_
  refine zx_idiv C dX8_hasPlaceForEntry_7 (by decide) ?_
  refine zx_topi (fun y6 hy6 => ?_)
  replace hm := ltb_e hm hy6
  refine zx_istore_n C [(2, .int (y6)), (0, .ref (a0)), (1, .int (p0))] dX8_hasPlaceForEntry_8 rfl (by decide) rfl ?_
  refine zx_aload_n C dX8_hasPlaceForEntry_9 1 rfl ?_
  refine zx_iload_n C dX8_hasPlaceForEntry_10 2 rfl ?_
  refine zx_iload_n C dX8_hasPlaceForEntry_11 0 rfl ?_
  refine zx_iload_n C dX8_hasPlaceForEntry_12 0 rfl ?_
  obtain ⟨k7, i8, hm⟩ := ckO_e hm
  obtain ⟨v9, ρ10, h11, hm⟩ := cll_e hm
  refine zx_callV (σ := ρ4) C [.int (p0), .int (y6), .int (y6)] tC_8 k7 i8 Y_X8_needs W_4_170 W_4_171 W_4_172 (c_X8_needs h11) (by decide) (by decide) rfl (Nat.le_of_ble_eq_true rfl) dX8_hasPlaceForEntry_13 rfl ?_
  refine zx_aload_n C dX8_hasPlaceForEntry_16 1 rfl ?_
  obtain ⟨k12, i13, hm⟩ := ckO_e hm
  obtain ⟨a14, h15, hm⟩ := osm_e hm
  refine zx_get (j := 0) C tC_8 k12 i13 ⟨by decide, Or.inl W_1_163⟩ dX8_hasPlaceForEntry_17 (.ref a14) (rf_s h15) ?_
  obtain ⟨k16, i17, hm⟩ := ckO_e hm
  refine zx_get (j := 9) C tC_5 k16 i17 ⟨by decide, Or.inr ⟨_, W_1_109⟩⟩ dX8_hasPlaceForEntry_20 (.int (tI (ρ10) (a14) 9)) rfl ?_
  refine zx_icmp_gt C 30 dX8_hasPlaceForEntry_23 (by decide) (fun c18 => ?_) (fun c18 => ?_)
  · replace hm := ip_e hm c18
    refine zx_iconst (v := 0) C dX8_hasPlaceForEntry_30 (by decide) ?_
    exact zx_lv [] [] rfl (j_X8_hasPlaceForEntry_31 C htab hin    hm)
  · replace hm := in_e hm c18
    refine zx_iconst (v := 1) C dX8_hasPlaceForEntry_26 (by decide) ?_
    refine zx_goto C 31 dX8_hasPlaceForEntry_27 (by decide) ?_
    exact zx_lv [] [] rfl (j_X8_hasPlaceForEntry_31 C htab hin    hm)
abbrev cX8_setEntry : ByteArray := prog_10_method_51_code
def yX8_setEntry : MethodName := ⟨"SyncTree$Tree", "setEntry", "(IILSyncTree$PathText;I)V"⟩
theorem Y_X8_setEntry : tY yX8_setEntry cX8_setEntry 9 none 4 := ⟨W_4_228, W_1_4, ⟨by decide +kernel, by decide +kernel⟩, by decide +kernel⟩
theorem dX8_setEntry_0 : decode cX8_setEntry 0 = .ok (.aload_n 0, 1) := by decide +kernel
theorem dX8_setEntry_1 : decode cX8_setEntry 1 = .ok (.iload_n 1, 1) := by decide +kernel
theorem dX8_setEntry_2 : decode cX8_setEntry 2 = .ok (.iload_n 2, 1) := by decide +kernel
theorem dX8_setEntry_3 : decode cX8_setEntry 3 = .ok (.bipush 8, 2) := by decide +kernel
theorem dX8_setEntry_5 : decode cX8_setEntry 5 = .ok (.idiv, 1) := by decide +kernel
theorem dX8_setEntry_6 : decode cX8_setEntry 6 = .ok (.invokevirtual 112, 3) := by decide +kernel
theorem dX8_setEntry_9 : decode cX8_setEntry 9 = .ok (.invokestatic 104, 3) := by decide +kernel
theorem dX8_setEntry_12 : decode cX8_setEntry 12 = .ok (.istore 5, 2) := by decide +kernel
theorem dX8_setEntry_14 : decode cX8_setEntry 14 = .ok (.iload_n 2, 1) := by decide +kernel
theorem dX8_setEntry_15 : decode cX8_setEntry 15 = .ok (.bipush 8, 2) := by decide +kernel
theorem dX8_setEntry_17 : decode cX8_setEntry 17 = .ok (.irem, 1) := by decide +kernel
theorem dX8_setEntry_18 : decode cX8_setEntry 18 = .ok (.bipush 32, 2) := by decide +kernel
theorem dX8_setEntry_20 : decode cX8_setEntry 20 = .ok (.imul, 1) := by decide +kernel
theorem dX8_setEntry_21 : decode cX8_setEntry 21 = .ok (.istore 6, 2) := by decide +kernel
theorem dX8_setEntry_23 : decode cX8_setEntry 23 = .ok (.aload_n 3, 1) := by decide +kernel
theorem dX8_setEntry_24 : decode cX8_setEntry 24 = .ok (.getfield 178, 3) := by decide +kernel
theorem dX8_setEntry_27 : decode cX8_setEntry 27 = .ok (.bipush 28, 2) := by decide +kernel
theorem dX8_setEntry_29 : decode cX8_setEntry 29 = .ok (.invokestatic 73, 3) := by decide +kernel
theorem dX8_setEntry_32 : decode cX8_setEntry 32 = .ok (.istore 7, 2) := by decide +kernel
theorem dX8_setEntry_34 : decode cX8_setEntry 34 = .ok (.iconst 0, 1) := by decide +kernel
theorem dX8_setEntry_35 : decode cX8_setEntry 35 = .ok (.istore 8, 2) := by decide +kernel
theorem dX8_setEntry_37 : decode cX8_setEntry 37 = .ok (.iload 8, 2) := by decide +kernel
theorem dX8_setEntry_39 : decode cX8_setEntry 39 = .ok (.iload 7, 2) := by decide +kernel
theorem dX8_setEntry_41 : decode cX8_setEntry 41 = .ok (.if_icmp .ge 47, 3) := by decide +kernel
theorem dX8_setEntry_44 : decode cX8_setEntry 44 = .ok (.aload_n 3, 1) := by decide +kernel
theorem dX8_setEntry_45 : decode cX8_setEntry 45 = .ok (.getfield 175, 3) := by decide +kernel
theorem dX8_setEntry_48 : decode cX8_setEntry 48 = .ok (.iload 8, 2) := by decide +kernel
theorem dX8_setEntry_50 : decode cX8_setEntry 50 = .ok (.iadd, 1) := by decide +kernel
theorem dX8_setEntry_51 : decode cX8_setEntry 51 = .ok (.bipush 120, 2) := by decide +kernel
theorem dX8_setEntry_53 : decode cX8_setEntry 53 = .ok (.if_icmp .ge 35, 3) := by decide +kernel
theorem dX8_setEntry_56 : decode cX8_setEntry 56 = .ok (.aload_n 0, 1) := by decide +kernel
theorem dX8_setEntry_57 : decode cX8_setEntry 57 = .ok (.getfield 15, 3) := by decide +kernel
theorem dX8_setEntry_60 : decode cX8_setEntry 60 = .ok (.iload 5, 2) := by decide +kernel
theorem dX8_setEntry_62 : decode cX8_setEntry 62 = .ok (.iload 6, 2) := by decide +kernel
theorem dX8_setEntry_64 : decode cX8_setEntry 64 = .ok (.iload 8, 2) := by decide +kernel
theorem dX8_setEntry_66 : decode cX8_setEntry 66 = .ok (.iadd, 1) := by decide +kernel
theorem dX8_setEntry_67 : decode cX8_setEntry 67 = .ok (.aload_n 3, 1) := by decide +kernel
theorem dX8_setEntry_68 : decode cX8_setEntry 68 = .ok (.getfield 76, 3) := by decide +kernel
theorem dX8_setEntry_71 : decode cX8_setEntry 71 = .ok (.aload_n 3, 1) := by decide +kernel
theorem dX8_setEntry_72 : decode cX8_setEntry 72 = .ok (.getfield 175, 3) := by decide +kernel
theorem dX8_setEntry_75 : decode cX8_setEntry 75 = .ok (.iload 8, 2) := by decide +kernel
theorem dX8_setEntry_77 : decode cX8_setEntry 77 = .ok (.iadd, 1) := by decide +kernel
theorem dX8_setEntry_78 : decode cX8_setEntry 78 = .ok (.baload, 1) := by decide +kernel
theorem dX8_setEntry_79 : decode cX8_setEntry 79 = .ok (.invokevirtual 79, 3) := by decide +kernel
theorem dX8_setEntry_82 : decode cX8_setEntry 82 = .ok (.iinc 8 1, 3) := by decide +kernel
theorem dX8_setEntry_85 : decode cX8_setEntry 85 = .ok (.goto (-48), 3) := by decide +kernel
theorem dX8_setEntry_88 : decode cX8_setEntry 88 = .ok (.aload_n 0, 1) := by decide +kernel
theorem dX8_setEntry_89 : decode cX8_setEntry 89 = .ok (.getfield 15, 3) := by decide +kernel
theorem dX8_setEntry_92 : decode cX8_setEntry 92 = .ok (.iload 5, 2) := by decide +kernel
theorem dX8_setEntry_94 : decode cX8_setEntry 94 = .ok (.iload 6, 2) := by decide +kernel
theorem dX8_setEntry_96 : decode cX8_setEntry 96 = .ok (.bipush 28, 2) := by decide +kernel
theorem dX8_setEntry_98 : decode cX8_setEntry 98 = .ok (.iadd, 1) := by decide +kernel
theorem dX8_setEntry_99 : decode cX8_setEntry 99 = .ok (.iload 7, 2) := by decide +kernel
theorem dX8_setEntry_101 : decode cX8_setEntry 101 = .ok (.invokevirtual 79, 3) := by decide +kernel
theorem dX8_setEntry_104 : decode cX8_setEntry 104 = .ok (.aload_n 0, 1) := by decide +kernel
theorem dX8_setEntry_105 : decode cX8_setEntry 105 = .ok (.getfield 15, 3) := by decide +kernel
theorem dX8_setEntry_108 : decode cX8_setEntry 108 = .ok (.iload 5, 2) := by decide +kernel
theorem dX8_setEntry_110 : decode cX8_setEntry 110 = .ok (.iload 6, 2) := by decide +kernel
theorem dX8_setEntry_112 : decode cX8_setEntry 112 = .ok (.bipush 29, 2) := by decide +kernel
theorem dX8_setEntry_114 : decode cX8_setEntry 114 = .ok (.iadd, 1) := by decide +kernel
theorem dX8_setEntry_115 : decode cX8_setEntry 115 = .ok (.iload 4, 2) := by decide +kernel
theorem dX8_setEntry_117 : decode cX8_setEntry 117 = .ok (.invokevirtual 79, 3) := by decide +kernel
theorem dX8_setEntry_120 : decode cX8_setEntry 120 = .ok (.aload_n 0, 1) := by decide +kernel
theorem dX8_setEntry_121 : decode cX8_setEntry 121 = .ok (.getfield 15, 3) := by decide +kernel
theorem dX8_setEntry_124 : decode cX8_setEntry 124 = .ok (.iload 5, 2) := by decide +kernel
theorem dX8_setEntry_126 : decode cX8_setEntry 126 = .ok (.invokevirtual 26, 3) := by decide +kernel
theorem dX8_setEntry_129 : decode cX8_setEntry 129 = .ok (.return_, 1) := by decide +kernel
set_option maxRecDepth 100000 in
set_option maxHeartbeats 1000000 in
theorem j_X8_setEntry_88 {p : Program} {l : Launch} {e : Env} {s : State} {m : MethodId} {args : Array Value} {below : List Frame} {meth : Method} {c : Code} {D : va_G} {aC : Nat → ClassId} {b0 fu : Nat} {σ0 τ : tM} {v : Unit}  (C : tCx p l s m args meth c yX8_setEntry.cls cX8_setEntry 9 none D aC b0 σ0) (htab : ∀ x ∈ c.exceptionTable.toList, False) (hin : meth.name = yX8_setEntry.name)  {x0 : Nat} {x4 : Int32} {x5 : Int32} {x6 : Int32} {x7 : Int32} {σ : tM} (hm : J_X8_setEntry_88 b0 fu  x0 x4 x5 x6 x7 σ = some (v, τ)) : tX p l e s m args below meth c 9 2 47 D aC b0 σ0 (.inl none) τ 88 [(0, .ref (x0)), (4, .int (x4)), (5, .int (x5)), (6, .int (x6)), (7, .int (x7))] [] σ := by
  unfold J_X8_setEntry_88 at hm
  refine zx_aload_n C dX8_setEntry_88 0 rfl ?_
  obtain ⟨k14, i15, hm⟩ := ckO_e hm
  obtain ⟨a16, h17, hm⟩ := osm_e hm
  refine zx_get (j := 0) C tC_8 k14 i15 ⟨by decide, Or.inl W_1_163⟩ dX8_setEntry_89 (.ref a16) (rf_s h17) ?_
  refine zx_iload C dX8_setEntry_92 2 rfl ?_
  refine zx_iload C dX8_setEntry_94 3 rfl ?_
  refine zx_bipush (v := 28) C dX8_setEntry_96 (by decide) ?_
  refine zx_iadd C dX8_setEntry_98 ?_
  refine zx_iload C dX8_setEntry_99 4 rfl ?_
  obtain ⟨k18, i19, hm⟩ := ckO_e hm
  obtain ⟨v20, ρ21, h22, hm⟩ := cll_e hm
  refine zx_callV (σ := σ) C [.int (x5), .int ((x6) + (28)), .int (x7)] tC_5 k18 i19 Y_X5_setOctet W_4_180 W_4_181 W_4_182 (c_X5_setOctet h22) (by decide) (by decide) rfl (Nat.le_of_ble_eq_true rfl) dX8_setEntry_101 rfl ?_
  refine zx_aload_n C dX8_setEntry_104 0 rfl ?_
  obtain ⟨k23, i24, hm⟩ := ckO_e hm
  obtain ⟨a25, h26, hm⟩ := osm_e hm
  refine zx_get (j := 0) C tC_8 k23 i24 ⟨by decide, Or.inl W_1_163⟩ dX8_setEntry_105 (.ref a25) (rf_s h26) ?_
  refine zx_iload C dX8_setEntry_108 2 rfl ?_
  refine zx_iload C dX8_setEntry_110 3 rfl ?_
  refine zx_bipush (v := 29) C dX8_setEntry_112 (by decide) ?_
  refine zx_iadd C dX8_setEntry_114 ?_
  refine zx_iload C dX8_setEntry_115 1 rfl ?_
  obtain ⟨k27, i28, hm⟩ := ckO_e hm
  obtain ⟨v29, ρ30, h31, hm⟩ := cll_e hm
  refine zx_callV (σ := ρ21) C [.int (x5), .int ((x6) + (29)), .int (x4)] tC_5 k27 i28 Y_X5_setOctet W_4_180 W_4_181 W_4_182 (c_X5_setOctet h31) (by decide) (by decide) rfl (Nat.le_of_ble_eq_true rfl) dX8_setEntry_117 rfl ?_
  refine zx_aload_n C dX8_setEntry_120 0 rfl ?_
  obtain ⟨k32, i33, hm⟩ := ckO_e hm
  obtain ⟨a34, h35, hm⟩ := osm_e hm
  refine zx_get (j := 0) C tC_8 k32 i33 ⟨by decide, Or.inl W_1_163⟩ dX8_setEntry_121 (.ref a34) (rf_s h35) ?_
  refine zx_iload C dX8_setEntry_124 2 rfl ?_
  obtain ⟨k36, i37, hm⟩ := ckO_e hm
  obtain ⟨v38, ρ39, h40, hm⟩ := cll_e hm
  refine zx_callV (σ := ρ30) C [.int (x5)] tC_5 k36 i37 Y_X5_touch W_2_156 W_2_157 W_2_158 (c_X5_touch h40) (by decide) (by decide) rfl (Nat.le_of_ble_eq_true rfl) dX8_setEntry_126 rfl ?_
  obtain ⟨rfl, rfl⟩ := ret_e hm
  exact zx_vret C rfl rfl rfl dX8_setEntry_129
set_option maxRecDepth 100000 in
set_option maxHeartbeats 1000000 in
theorem l_X8_setEntry_37 {p : Program} {l : Launch} {e : Env} {s : State} {m : MethodId} {args : Array Value} {below : List Frame} {meth : Method} {c : Code} {D : va_G} {aC : Nat → ClassId} {b0 fu : Nat} {σ0 τ : tM} {v : Unit}  (C : tCx p l s m args meth c yX8_setEntry.cls cX8_setEntry 9 none D aC b0 σ0) (htab : ∀ x ∈ c.exceptionTable.toList, False) (hin : meth.name = yX8_setEntry.name)  : ∀ (n : Nat) (x0 : Nat) (x3 : Nat) (x4 : Int32) (x5 : Int32) (x6 : Int32) (x7 : Int32) (x8 : Int32) (σ : tM), L_X8_setEntry_37 b0 fu  n x0 x3 x4 x5 x6 x7 x8 σ = some (v, τ) → tX p l e s m args below meth c 9 2 47 D aC b0 σ0 (.inl none) τ 37 [(0, .ref (x0)), (3, .ref (x3)), (4, .int (x4)), (5, .int (x5)), (6, .int (x6)), (7, .int (x7)), (8, .int (x8))] [] σ := by
  intro n
  induction n with
  | zero => intro x0 x3 x4 x5 x6 x7 x8 σ hm; unfold L_X8_setEntry_37 at hm; cases hm
  | succ n ih =>
    intro x0 x3 x4 x5 x6 x7 x8 σ hm
    unfold L_X8_setEntry_37 at hm
    obtain ⟨rc37, hrc⟩ : ∃ z, z = L_X8_setEntry_37 b0 fu  n := ⟨_, rfl⟩
    replace hm := ltb_e hm hrc
    rw [← hrc] at ih
    have hrc37 := ih
    clear ih hrc
    refine zx_iload C dX8_setEntry_37 6 rfl ?_
    refine zx_iload C dX8_setEntry_39 5 rfl ?_
    refine zx_icmp_ge C 88 dX8_setEntry_41 (by decide) (fun c13 => ?_) (fun c13 => ?_)
    · replace hm := ip_e hm c13
      exact zx_lv [0, 2, 3, 4, 5] [(0, .ref (x0)), (4, .int (x4)), (5, .int (x5)), (6, .int (x6)), (7, .int (x7))] rfl (j_X8_setEntry_88 C htab hin    hm)
    · replace hm := in_e hm c13
      refine zx_aload_n C dX8_setEntry_44 1 rfl ?_
      obtain ⟨k41, i42, hm⟩ := ckO_e hm
      refine zx_get (j := 2) C tC_3 k41 i42 ⟨by decide, Or.inr ⟨_, W_2_65⟩⟩ dX8_setEntry_45 (.int (tI (σ) (x3) 2)) rfl ?_
      refine zx_iload C dX8_setEntry_48 6 rfl ?_
      refine zx_iadd C dX8_setEntry_50 ?_
      refine zx_bipush (v := 120) C dX8_setEntry_51 (by decide) ?_
      refine zx_icmp_ge C 88 dX8_setEntry_53 (by decide) (fun c43 => ?_) (fun c43 => ?_)
      · replace hm := ip_e hm c43
        exact zx_lv [0, 2, 3, 4, 5] [(0, .ref (x0)), (4, .int (x4)), (5, .int (x5)), (6, .int (x6)), (7, .int (x7))] rfl (j_X8_setEntry_88 C htab hin    hm)
      · replace hm := in_e hm c43
        refine zx_aload_n C dX8_setEntry_56 0 rfl ?_
        obtain ⟨k44, i45, hm⟩ := ckO_e hm
        obtain ⟨a46, h47, hm⟩ := osm_e hm
        refine zx_get (j := 0) C tC_8 k44 i45 ⟨by decide, Or.inl W_1_163⟩ dX8_setEntry_57 (.ref a46) (rf_s h47) ?_
        refine zx_iload C dX8_setEntry_60 3 rfl ?_
        refine zx_iload C dX8_setEntry_62 4 rfl ?_
        refine zx_iload C dX8_setEntry_64 6 rfl ?_
        refine zx_iadd C dX8_setEntry_66 ?_
        refine zx_aload_n C dX8_setEntry_67 1 rfl ?_
        obtain ⟨a48, h49, hm⟩ := osm_e hm
        refine zx_get (j := 0) C tC_3 k41 i42 ⟨by decide, Or.inr ⟨_, W_2_58⟩⟩ dX8_setEntry_68 (.ref a48) (rf_s h49) ?_
        refine zx_aload_n C dX8_setEntry_71 1 rfl ?_
        refine zx_get (j := 2) C tC_3 k41 i42 ⟨by decide, Or.inr ⟨_, W_2_65⟩⟩ dX8_setEntry_72 (.int (tI (σ) (x3) 2)) rfl ?_
        refine zx_iload C dX8_setEntry_75 6 rfl ?_
        refine zx_iadd C dX8_setEntry_77 ?_
        obtain ⟨n52, k50, i51, hm⟩ := ckR_e hm
        obtain ⟨h53, hm⟩ := ckI_e hm
        refine zx_bald C k50 i51 h53 dX8_setEntry_78 ?_
        obtain ⟨k54, i55, hm⟩ := ckO_e hm
        obtain ⟨v56, ρ57, h58, hm⟩ := cll_e hm
        refine zx_callV (σ := σ) C [.int (x5), .int ((x6) + (x8)), .int (tI (σ) (a48) (((tI (σ) (x3) 2) + (x8)).toNatClampNeg))] tC_5 k54 i55 Y_X5_setOctet W_4_180 W_4_181 W_4_182 (c_X5_setOctet h58) (by decide) (by decide) rfl (Nat.le_of_ble_eq_true rfl) dX8_setEntry_79 rfl ?_
        obtain ⟨y59, hy59⟩ : ∃ z : Int32, z = (x8) + Int32.ofInt 1 := ⟨_, rfl⟩
        replace hm := ltb_e hm hy59
        refine zx_iinc C [(8, .int (y59)), (0, .ref (x0)), (3, .ref (x3)), (4, .int (x4)), (5, .int (x5)), (6, .int (x6)), (7, .int (x7))] dX8_setEntry_82 6 rfl hy59.symm (by decide) rfl ?_
        refine zx_goto C 37 dX8_setEntry_85 (by decide) ?_
        exact zx_lv [1, 2, 3, 4, 5, 6, 0] [(0, .ref (x0)), (3, .ref (x3)), (4, .int (x4)), (5, .int (x5)), (6, .int (x6)), (7, .int (x7)), (8, .int (y59))] rfl (hrc37 _ _ _ _ _ _ _ _ hm)
set_option maxRecDepth 100000 in
set_option maxHeartbeats 1000000 in
theorem c_X8_setEntry {l : Launch} {D : va_G} {aC : Nat → ClassId} {b0 fu : Nat} {a0 : Nat} {p0 : Int32} {p1 : Int32} {p2 : Nat} {p3 : Int32} {σ τ : tM} {v : Unit} (hm : m_X8_setEntry b0 fu a0 p0 p1 p2 p3 σ = some (v, τ)) : tMt l D aC b0 yX8_setEntry (Cond.code yX8_setEntry cX8_setEntry 9 none) 2 47 [.ref (a0), .int (p0), .int (p1), .ref (p2), .int (p3)] σ (.inl none) τ := by
  unfold m_X8_setEntry at hm
  obtain ⟨hg, hm⟩ := grw_e hm
  refine tMt_of (n := 0) rfl (Nat.le_of_ble_eq_true rfl) hg ?_
  intro p e s m below meth c C htab hin
  refine zx_lv [0, 1, 2, 3, 4] [(0, .ref (a0)), (1, .int (p0)), (2, .int (p1)), (3, .ref (p2)), (4, .int (p3))] rfl ?_
  refine zx_aload_n C dX8_setEntry_0 0 rfl ?_
  refine zx_iload_n C dX8_setEntry_1 1 rfl ?_
  refine zx_iload_n C dX8_setEntry_2 2 rfl ?_
  refine zx_bipush (v := 8) C dX8_setEntry_3 (by decide) ?_
  refine zx_idiv C dX8_setEntry_5 (by decide) ?_
  obtain ⟨k1, i2, hm⟩ := ckO_e hm
  obtain ⟨v3, ρ4, h5, hm⟩ := cll_e hm
  refine zx_callV (σ := σ) C [.int (p0), .int ((p1) / (8))] tC_8 k1 i2 Y_X8_pointer W_4_109 W_4_110 W_4_111 (c_X8_pointer h5) (by decide) (by decide) rfl (Nat.le_of_ble_eq_true rfl) dX8_setEntry_6 rfl ?_
  obtain ⟨v6, ρ7, h8, hm⟩ := cll_e hm
  refine zx_callS (σ := ρ4) C [.long (v3)] Y_X8_cellOf W_4_117 W_4_118 (c_X8_cellOf h8) (by decide) (by decide) rfl (Nat.le_of_ble_eq_true rfl) dX8_setEntry_9 rfl ?_
  refine zx_istore C [(5, .int (v6)), (0, .ref (a0)), (1, .int (p0)), (2, .int (p1)), (3, .ref (p2)), (4, .int (p3))] dX8_setEntry_12 (by decide) rfl ?_
  refine zx_iload_n C dX8_setEntry_14 3 rfl ?_
  refine zx_bipush (v := 8) C dX8_setEntry_15 (by decide) ?_
  refine zx_irem C dX8_setEntry_17 (by decide) ?_
  refine zx_bipush (v := 32) C dX8_setEntry_18 (by decide) ?_
  refine zx_imul C dX8_setEntry_20 ?_
  refine zx_topi (fun y9 hy9 => ?_)
  replace hm := ltb_e hm hy9
  refine zx_istore C [(6, .int (y9)), (5, .int (v6)), (0, .ref (a0)), (1, .int (p0)), (2, .int (p1)), (3, .ref (p2)), (4, .int (p3))] dX8_setEntry_21 (by decide) rfl ?_
  refine zx_aload_n C dX8_setEntry_23 5 rfl ?_
  obtain ⟨k10, i11, hm⟩ := ckO_e hm
  refine zx_get (j := 3) C tC_3 k10 i11 ⟨by decide, Or.inr ⟨_, W_2_68⟩⟩ dX8_setEntry_24 (.int (tI (ρ7) (p2) 3)) rfl ?_
  refine zx_bipush (v := 28) C dX8_setEntry_27 (by decide) ?_
  refine zx_min C W_4_179 W_2_106 W_1_10 W_2_107 (by decide) (by decide) (Nat.le_of_ble_eq_true rfl) dX8_setEntry_29 ?_
  refine zx_topi (fun y12 hy12 => ?_)
  replace hm := ltb_e hm hy12
  refine zx_istore C [(7, .int (y12)), (6, .int (y9)), (5, .int (v6)), (0, .ref (a0)), (1, .int (p0)), (2, .int (p1)), (3, .ref (p2)), (4, .int (p3))] dX8_setEntry_32 (by decide) rfl ?_
  refine zx_iconst (v := 0) C dX8_setEntry_34 (by decide) ?_
  refine zx_istore C [(8, .int (0)), (7, .int (y12)), (6, .int (y9)), (5, .int (v6)), (0, .ref (a0)), (1, .int (p0)), (2, .int (p1)), (3, .ref (p2)), (4, .int (p3))] dX8_setEntry_35 (by decide) rfl ?_
  exact zx_lv [4, 7, 8, 3, 2, 1, 0] [(0, .ref (a0)), (3, .ref (p2)), (4, .int (p3)), (5, .int (v6)), (6, .int (y9)), (7, .int (y12)), (8, .int (0))] rfl (l_X8_setEntry_37 C htab hin  _ _ _ _ _ _ _ _ _ hm)
abbrev cX9_init : ByteArray := prog_11_method_1_code
def yX9_init : MethodName := ⟨"SyncTree$Walker", "<init>", "(LSyncTree$Tree;)V"⟩
theorem Y_X9_init : tY yX9_init cX9_init 2 none 1 := ⟨W_2_18, W_1_7, ⟨by decide +kernel, by decide +kernel⟩, by decide +kernel⟩
theorem dX9_init_0 : decode cX9_init 0 = .ok (.aload_n 0, 1) := by decide +kernel
theorem dX9_init_1 : decode cX9_init 1 = .ok (.invokespecial 3, 3) := by decide +kernel
theorem dX9_init_4 : decode cX9_init 4 = .ok (.aload_n 0, 1) := by decide +kernel
theorem dX9_init_5 : decode cX9_init 5 = .ok (.sipush 760, 3) := by decide +kernel
theorem dX9_init_8 : decode cX9_init 8 = .ok (.newarray .byte, 2) := by decide +kernel
theorem dX9_init_10 : decode cX9_init 10 = .ok (.putfield 11, 3) := by decide +kernel
theorem dX9_init_13 : decode cX9_init 13 = .ok (.aload_n 0, 1) := by decide +kernel
theorem dX9_init_14 : decode cX9_init 14 = .ok (.aload_n 1, 1) := by decide +kernel
theorem dX9_init_15 : decode cX9_init 15 = .ok (.putfield 15, 3) := by decide +kernel
theorem dX9_init_18 : decode cX9_init 18 = .ok (.return_, 1) := by decide +kernel
set_option maxRecDepth 100000 in
set_option maxHeartbeats 1000000 in
theorem c_X9_init {l : Launch} {D : va_G} {aC : Nat → ClassId} {b0 fu : Nat} {a0 : Nat} {p0 : Nat} {σ τ : tM} {v : Unit} (hm : m_X9_init b0 fu a0 p0 σ = some (v, τ)) : tMt l D aC b0 yX9_init (Cond.code yX9_init cX9_init 2 none) 1 20 [.ref (a0), .ref (p0)] σ (.inl none) τ := by
  unfold m_X9_init at hm
  obtain ⟨hg, hm⟩ := grw_e hm
  refine tMt_of (n := 0) rfl (Nat.le_of_ble_eq_true rfl) hg ?_
  intro p e s m below meth c C htab hin
  refine zx_lv [0, 1] [(0, .ref (a0)), (1, .ref (p0))] rfl ?_
  refine zx_aload_n C dX9_init_0 0 rfl ?_
  refine zx_obj C W_2_19 W_1_26 W_1_27 (by decide) (by decide) (Nat.le_of_ble_eq_true rfl) dX9_init_1 ?_
  refine zx_aload_n C dX9_init_4 0 rfl ?_
  refine zx_sipush (v := 760) C dX9_init_5 (by decide) ?_
  refine zx_newB C W_1_156 (by decide) (by decide) dX9_init_8 ?_
  refine zx_mem (fun ρ1 hρ1 => ?_)
  replace hm := ltb_e hm hρ1
  have k2 : tk ρ1 (b0 + tn σ) = .inr (1, ((760 : Int32)).toNatClampNeg) := by rw [hρ1]; exact sN_k _ _ _ _
  have i3 : tIn b0 ρ1 (b0 + tn σ) := by rw [hρ1]; exact sN_i _ _ _ _
  obtain ⟨k4, i5, hm⟩ := ckO_e hm
  refine zx_putF (j := 1) (ρ := sA (ρ1) (a0) 1 (some (b0 + tn σ))) C hin tC_9 k4 i5 (by decide) W_2_21 rfl rfl rfl rfl (sA_ok (fun _ => rfl)) dX9_init_10 ?_
  refine zx_aload_n C dX9_init_13 0 rfl ?_
  refine zx_aload_n C dX9_init_14 1 rfl ?_
  refine zx_putF (j := 0) (ρ := sA (sA (ρ1) (a0) 1 (some (b0 + tn σ))) (a0) 0 (some (p0))) C hin tC_9 k4 i5 (by decide) W_2_20 rfl rfl rfl rfl (sA_ok (fun _ => rfl)) dX9_init_15 ?_
  obtain ⟨rfl, rfl⟩ := ret_e hm
  exact zx_vret C rfl rfl rfl dX9_init_18
abbrev cX9_endOfSlashes : ByteArray := prog_11_method_5_code
def yX9_endOfSlashes : MethodName := ⟨"SyncTree$Walker", "endOfSlashes", "(I)I"⟩
theorem Y_X9_endOfSlashes : tY yX9_endOfSlashes cX9_endOfSlashes 3 (some .int) 1 := ⟨W_4_83, W_1_7, ⟨by decide +kernel, by decide +kernel⟩, by decide +kernel⟩
theorem dX9_endOfSlashes_0 : decode cX9_endOfSlashes 0 = .ok (.iload_n 1, 1) := by decide +kernel
theorem dX9_endOfSlashes_1 : decode cX9_endOfSlashes 1 = .ok (.iconst 0, 1) := by decide +kernel
theorem dX9_endOfSlashes_2 : decode cX9_endOfSlashes 2 = .ok (.invokestatic 48, 3) := by decide +kernel
theorem dX9_endOfSlashes_5 : decode cX9_endOfSlashes 5 = .ok (.istore_n 2, 1) := by decide +kernel
theorem dX9_endOfSlashes_6 : decode cX9_endOfSlashes 6 = .ok (.iload_n 2, 1) := by decide +kernel
theorem dX9_endOfSlashes_7 : decode cX9_endOfSlashes 7 = .ok (.aload_n 0, 1) := by decide +kernel
theorem dX9_endOfSlashes_8 : decode cX9_endOfSlashes 8 = .ok (.getfield 51, 3) := by decide +kernel
theorem dX9_endOfSlashes_11 : decode cX9_endOfSlashes 11 = .ok (.if_icmp .ge 20, 3) := by decide +kernel
theorem dX9_endOfSlashes_14 : decode cX9_endOfSlashes 14 = .ok (.aload_n 0, 1) := by decide +kernel
theorem dX9_endOfSlashes_15 : decode cX9_endOfSlashes 15 = .ok (.getfield 11, 3) := by decide +kernel
theorem dX9_endOfSlashes_18 : decode cX9_endOfSlashes 18 = .ok (.iload_n 2, 1) := by decide +kernel
theorem dX9_endOfSlashes_19 : decode cX9_endOfSlashes 19 = .ok (.baload, 1) := by decide +kernel
theorem dX9_endOfSlashes_20 : decode cX9_endOfSlashes 20 = .ok (.bipush 47, 2) := by decide +kernel
theorem dX9_endOfSlashes_22 : decode cX9_endOfSlashes 22 = .ok (.if_icmp .ne 9, 3) := by decide +kernel
theorem dX9_endOfSlashes_25 : decode cX9_endOfSlashes 25 = .ok (.iinc 2 1, 3) := by decide +kernel
theorem dX9_endOfSlashes_28 : decode cX9_endOfSlashes 28 = .ok (.goto (-22), 3) := by decide +kernel
theorem dX9_endOfSlashes_31 : decode cX9_endOfSlashes 31 = .ok (.iload_n 2, 1) := by decide +kernel
theorem dX9_endOfSlashes_32 : decode cX9_endOfSlashes 32 = .ok (.ireturn, 1) := by decide +kernel
set_option maxRecDepth 100000 in
set_option maxHeartbeats 1000000 in
theorem j_X9_endOfSlashes_31 {p : Program} {l : Launch} {e : Env} {s : State} {m : MethodId} {args : Array Value} {below : List Frame} {meth : Method} {c : Code} {D : va_G} {aC : Nat → ClassId} {b0 fu : Nat} {σ0 τ : tM} {v : Int32}  (C : tCx p l s m args meth c yX9_endOfSlashes.cls cX9_endOfSlashes 3 (some .int) D aC b0 σ0) (htab : ∀ x ∈ c.exceptionTable.toList, False) (hin : meth.name = yX9_endOfSlashes.name)  {x2 : Int32} {σ : tM} (hm : J_X9_endOfSlashes_31 b0 fu  x2 σ = some (v, τ)) : tX p l e s m args below meth c 3 1 21 D aC b0 σ0 (.inl (some (.int v))) τ 31 [(2, .int (x2))] [] σ := by
  unfold J_X9_endOfSlashes_31 at hm
  refine zx_iload_n C dX9_endOfSlashes_31 0 rfl ?_
  obtain ⟨rfl, rfl⟩ := ret_e hm
  exact zx_iret C rfl rfl rfl dX9_endOfSlashes_32
set_option maxRecDepth 100000 in
set_option maxHeartbeats 1000000 in
theorem l_X9_endOfSlashes_6 {p : Program} {l : Launch} {e : Env} {s : State} {m : MethodId} {args : Array Value} {below : List Frame} {meth : Method} {c : Code} {D : va_G} {aC : Nat → ClassId} {b0 fu : Nat} {σ0 τ : tM} {v : Int32}  (C : tCx p l s m args meth c yX9_endOfSlashes.cls cX9_endOfSlashes 3 (some .int) D aC b0 σ0) (htab : ∀ x ∈ c.exceptionTable.toList, False) (hin : meth.name = yX9_endOfSlashes.name)  : ∀ (n : Nat) (x0 : Nat) (x2 : Int32) (σ : tM), L_X9_endOfSlashes_6 b0 fu  n x0 x2 σ = some (v, τ) → tX p l e s m args below meth c 3 1 21 D aC b0 σ0 (.inl (some (.int v))) τ 6 [(0, .ref (x0)), (2, .int (x2))] [] σ := by
  intro n
  induction n with
  | zero => intro x0 x2 σ hm; unfold L_X9_endOfSlashes_6 at hm; cases hm
  | succ n ih =>
    intro x0 x2 σ hm
    unfold L_X9_endOfSlashes_6 at hm
    obtain ⟨rc6, hrc⟩ : ∃ z, z = L_X9_endOfSlashes_6 b0 fu  n := ⟨_, rfl⟩
    replace hm := ltb_e hm hrc
    rw [← hrc] at ih
    have hrc6 := ih
    clear ih hrc
    refine zx_iload_n C dX9_endOfSlashes_6 1 rfl ?_
    refine zx_aload_n C dX9_endOfSlashes_7 0 rfl ?_
    obtain ⟨k2, i3, hm⟩ := ckO_e hm
    refine zx_get (j := 3) C tC_9 k2 i3 ⟨by decide, Or.inl W_2_23⟩ dX9_endOfSlashes_8 (.int (tI (σ) (x0) 3)) rfl ?_
    refine zx_icmp_ge C 31 dX9_endOfSlashes_11 (by decide) (fun c4 => ?_) (fun c4 => ?_)
    · replace hm := ip_e hm c4
      exact zx_lv [1] [(2, .int (x2))] rfl (j_X9_endOfSlashes_31 C htab hin    hm)
    · replace hm := in_e hm c4
      refine zx_aload_n C dX9_endOfSlashes_14 0 rfl ?_
      obtain ⟨a5, h6, hm⟩ := osm_e hm
      refine zx_get (j := 1) C tC_9 k2 i3 ⟨by decide, Or.inl W_2_21⟩ dX9_endOfSlashes_15 (.ref a5) (rf_s h6) ?_
      refine zx_iload_n C dX9_endOfSlashes_18 1 rfl ?_
      obtain ⟨n9, k7, i8, hm⟩ := ckR_e hm
      obtain ⟨h10, hm⟩ := ckI_e hm
      refine zx_bald C k7 i8 h10 dX9_endOfSlashes_19 ?_
      refine zx_bipush (v := 47) C dX9_endOfSlashes_20 (by decide) ?_
      refine zx_icmp_ne C 31 dX9_endOfSlashes_22 (by decide) (fun c11 => ?_) (fun c11 => ?_)
      · replace hm := in_e hm c11
        exact zx_lv [1] [(2, .int (x2))] rfl (j_X9_endOfSlashes_31 C htab hin    hm)
      · replace hm := ip_e hm c11
        obtain ⟨y12, hy12⟩ : ∃ z : Int32, z = (x2) + Int32.ofInt 1 := ⟨_, rfl⟩
        replace hm := ltb_e hm hy12
        refine zx_iinc C [(2, .int (y12)), (0, .ref (x0))] dX9_endOfSlashes_25 1 rfl hy12.symm (by decide) rfl ?_
        refine zx_goto C 6 dX9_endOfSlashes_28 (by decide) ?_
        exact zx_lv [1, 0] [(0, .ref (x0)), (2, .int (y12))] rfl (hrc6 _ _ _ hm)
set_option maxRecDepth 100000 in
set_option maxHeartbeats 1000000 in
theorem c_X9_endOfSlashes {l : Launch} {D : va_G} {aC : Nat → ClassId} {b0 fu : Nat} {a0 : Nat} {p0 : Int32} {σ τ : tM} {v : Int32} (hm : m_X9_endOfSlashes b0 fu a0 p0 σ = some (v, τ)) : tMt l D aC b0 yX9_endOfSlashes (Cond.code yX9_endOfSlashes cX9_endOfSlashes 3 (some .int)) 1 21 [.ref (a0), .int (p0)] σ (.inl (some (.int v))) τ := by
  unfold m_X9_endOfSlashes at hm
  obtain ⟨hg, hm⟩ := grw_e hm
  refine tMt_of (n := 0) rfl (Nat.le_of_ble_eq_true rfl) hg ?_
  intro p e s m below meth c C htab hin
  refine zx_lv [0, 1] [(0, .ref (a0)), (1, .int (p0))] rfl ?_
  refine zx_iload_n C dX9_endOfSlashes_0 1 rfl ?_
  refine zx_iconst (v := 0) C dX9_endOfSlashes_1 (by decide) ?_
  refine zx_max C W_4_78 W_2_109 W_1_10 W_2_110 (by decide) (by decide) (Nat.le_of_ble_eq_true rfl) dX9_endOfSlashes_2 ?_
  refine zx_topi (fun y1 hy1 => ?_)
  replace hm := ltb_e hm hy1
  refine zx_istore_n C [(2, .int (y1)), (0, .ref (a0)), (1, .int (p0))] dX9_endOfSlashes_5 rfl (by decide) rfl ?_
  exact zx_lv [1, 0] [(0, .ref (a0)), (2, .int (y1))] rfl (l_X9_endOfSlashes_6 C htab hin  _ _ _ _ hm)
abbrev cX9_endOfName : ByteArray := prog_11_method_6_code
def yX9_endOfName : MethodName := ⟨"SyncTree$Walker", "endOfName", "(I)I"⟩
theorem Y_X9_endOfName : tY yX9_endOfName cX9_endOfName 3 (some .int) 1 := ⟨W_4_87, W_1_7, ⟨by decide +kernel, by decide +kernel⟩, by decide +kernel⟩
theorem dX9_endOfName_0 : decode cX9_endOfName 0 = .ok (.iload_n 1, 1) := by decide +kernel
theorem dX9_endOfName_1 : decode cX9_endOfName 1 = .ok (.iconst 0, 1) := by decide +kernel
theorem dX9_endOfName_2 : decode cX9_endOfName 2 = .ok (.invokestatic 48, 3) := by decide +kernel
theorem dX9_endOfName_5 : decode cX9_endOfName 5 = .ok (.istore_n 2, 1) := by decide +kernel
theorem dX9_endOfName_6 : decode cX9_endOfName 6 = .ok (.iload_n 2, 1) := by decide +kernel
theorem dX9_endOfName_7 : decode cX9_endOfName 7 = .ok (.aload_n 0, 1) := by decide +kernel
theorem dX9_endOfName_8 : decode cX9_endOfName 8 = .ok (.getfield 51, 3) := by decide +kernel
theorem dX9_endOfName_11 : decode cX9_endOfName 11 = .ok (.if_icmp .ge 20, 3) := by decide +kernel
theorem dX9_endOfName_14 : decode cX9_endOfName 14 = .ok (.aload_n 0, 1) := by decide +kernel
theorem dX9_endOfName_15 : decode cX9_endOfName 15 = .ok (.getfield 11, 3) := by decide +kernel
theorem dX9_endOfName_18 : decode cX9_endOfName 18 = .ok (.iload_n 2, 1) := by decide +kernel
theorem dX9_endOfName_19 : decode cX9_endOfName 19 = .ok (.baload, 1) := by decide +kernel
theorem dX9_endOfName_20 : decode cX9_endOfName 20 = .ok (.bipush 47, 2) := by decide +kernel
theorem dX9_endOfName_22 : decode cX9_endOfName 22 = .ok (.if_icmp .eq 9, 3) := by decide +kernel
theorem dX9_endOfName_25 : decode cX9_endOfName 25 = .ok (.iinc 2 1, 3) := by decide +kernel
theorem dX9_endOfName_28 : decode cX9_endOfName 28 = .ok (.goto (-22), 3) := by decide +kernel
theorem dX9_endOfName_31 : decode cX9_endOfName 31 = .ok (.iload_n 2, 1) := by decide +kernel
theorem dX9_endOfName_32 : decode cX9_endOfName 32 = .ok (.ireturn, 1) := by decide +kernel
set_option maxRecDepth 100000 in
set_option maxHeartbeats 1000000 in
theorem j_X9_endOfName_31 {p : Program} {l : Launch} {e : Env} {s : State} {m : MethodId} {args : Array Value} {below : List Frame} {meth : Method} {c : Code} {D : va_G} {aC : Nat → ClassId} {b0 fu : Nat} {σ0 τ : tM} {v : Int32}  (C : tCx p l s m args meth c yX9_endOfName.cls cX9_endOfName 3 (some .int) D aC b0 σ0) (htab : ∀ x ∈ c.exceptionTable.toList, False) (hin : meth.name = yX9_endOfName.name)  {x2 : Int32} {σ : tM} (hm : J_X9_endOfName_31 b0 fu  x2 σ = some (v, τ)) : tX p l e s m args below meth c 3 1 21 D aC b0 σ0 (.inl (some (.int v))) τ 31 [(2, .int (x2))] [] σ := by
  unfold J_X9_endOfName_31 at hm
  refine zx_iload_n C dX9_endOfName_31 0 rfl ?_
  obtain ⟨rfl, rfl⟩ := ret_e hm
  exact zx_iret C rfl rfl rfl dX9_endOfName_32
set_option maxRecDepth 100000 in
set_option maxHeartbeats 1000000 in
theorem l_X9_endOfName_6 {p : Program} {l : Launch} {e : Env} {s : State} {m : MethodId} {args : Array Value} {below : List Frame} {meth : Method} {c : Code} {D : va_G} {aC : Nat → ClassId} {b0 fu : Nat} {σ0 τ : tM} {v : Int32}  (C : tCx p l s m args meth c yX9_endOfName.cls cX9_endOfName 3 (some .int) D aC b0 σ0) (htab : ∀ x ∈ c.exceptionTable.toList, False) (hin : meth.name = yX9_endOfName.name)  : ∀ (n : Nat) (x0 : Nat) (x2 : Int32) (σ : tM), L_X9_endOfName_6 b0 fu  n x0 x2 σ = some (v, τ) → tX p l e s m args below meth c 3 1 21 D aC b0 σ0 (.inl (some (.int v))) τ 6 [(0, .ref (x0)), (2, .int (x2))] [] σ := by
  intro n
  induction n with
  | zero => intro x0 x2 σ hm; unfold L_X9_endOfName_6 at hm; cases hm
  | succ n ih =>
    intro x0 x2 σ hm
    unfold L_X9_endOfName_6 at hm
    obtain ⟨rc6, hrc⟩ : ∃ z, z = L_X9_endOfName_6 b0 fu  n := ⟨_, rfl⟩
    replace hm := ltb_e hm hrc
    rw [← hrc] at ih
    have hrc6 := ih
    clear ih hrc
    refine zx_iload_n C dX9_endOfName_6 1 rfl ?_
    refine zx_aload_n C dX9_endOfName_7 0 rfl ?_
    obtain ⟨k2, i3, hm⟩ := ckO_e hm
    refine zx_get (j := 3) C tC_9 k2 i3 ⟨by decide, Or.inl W_2_23⟩ dX9_endOfName_8 (.int (tI (σ) (x0) 3)) rfl ?_
    refine zx_icmp_ge C 31 dX9_endOfName_11 (by decide) (fun c4 => ?_) (fun c4 => ?_)
    · replace hm := ip_e hm c4
      exact zx_lv [1] [(2, .int (x2))] rfl (j_X9_endOfName_31 C htab hin    hm)
    · replace hm := in_e hm c4
      refine zx_aload_n C dX9_endOfName_14 0 rfl ?_
      obtain ⟨a5, h6, hm⟩ := osm_e hm
      refine zx_get (j := 1) C tC_9 k2 i3 ⟨by decide, Or.inl W_2_21⟩ dX9_endOfName_15 (.ref a5) (rf_s h6) ?_
      refine zx_iload_n C dX9_endOfName_18 1 rfl ?_
      obtain ⟨n9, k7, i8, hm⟩ := ckR_e hm
      obtain ⟨h10, hm⟩ := ckI_e hm
      refine zx_bald C k7 i8 h10 dX9_endOfName_19 ?_
      refine zx_bipush (v := 47) C dX9_endOfName_20 (by decide) ?_
      refine zx_icmp_eq C 31 dX9_endOfName_22 (by decide) (fun c11 => ?_) (fun c11 => ?_)
      · replace hm := ip_e hm c11
        exact zx_lv [1] [(2, .int (x2))] rfl (j_X9_endOfName_31 C htab hin    hm)
      · replace hm := in_e hm c11
        obtain ⟨y12, hy12⟩ : ∃ z : Int32, z = (x2) + Int32.ofInt 1 := ⟨_, rfl⟩
        replace hm := ltb_e hm hy12
        refine zx_iinc C [(2, .int (y12)), (0, .ref (x0))] dX9_endOfName_25 1 rfl hy12.symm (by decide) rfl ?_
        refine zx_goto C 6 dX9_endOfName_28 (by decide) ?_
        exact zx_lv [1, 0] [(0, .ref (x0)), (2, .int (y12))] rfl (hrc6 _ _ _ hm)
set_option maxRecDepth 100000 in
set_option maxHeartbeats 1000000 in
theorem c_X9_endOfName {l : Launch} {D : va_G} {aC : Nat → ClassId} {b0 fu : Nat} {a0 : Nat} {p0 : Int32} {σ τ : tM} {v : Int32} (hm : m_X9_endOfName b0 fu a0 p0 σ = some (v, τ)) : tMt l D aC b0 yX9_endOfName (Cond.code yX9_endOfName cX9_endOfName 3 (some .int)) 1 21 [.ref (a0), .int (p0)] σ (.inl (some (.int v))) τ := by
  unfold m_X9_endOfName at hm
  obtain ⟨hg, hm⟩ := grw_e hm
  refine tMt_of (n := 0) rfl (Nat.le_of_ble_eq_true rfl) hg ?_
  intro p e s m below meth c C htab hin
  refine zx_lv [0, 1] [(0, .ref (a0)), (1, .int (p0))] rfl ?_
  refine zx_iload_n C dX9_endOfName_0 1 rfl ?_
  refine zx_iconst (v := 0) C dX9_endOfName_1 (by decide) ?_
  refine zx_max C W_4_78 W_2_109 W_1_10 W_2_110 (by decide) (by decide) (Nat.le_of_ble_eq_true rfl) dX9_endOfName_2 ?_
  refine zx_topi (fun y1 hy1 => ?_)
  replace hm := ltb_e hm hy1
  refine zx_istore_n C [(2, .int (y1)), (0, .ref (a0)), (1, .int (p0))] dX9_endOfName_5 rfl (by decide) rfl ?_
  exact zx_lv [1, 0] [(0, .ref (a0)), (2, .int (y1))] rfl (l_X9_endOfName_6 C htab hin  _ _ _ _ hm)
abbrev cX9_look : ByteArray := prog_11_method_7_code
def yX9_look : MethodName := ⟨"SyncTree$Walker", "look", "(III)I"⟩
theorem Y_X9_look : tY yX9_look cX9_look 5 (some .int) 3 := ⟨W_4_91, W_1_7, ⟨by decide +kernel, by decide +kernel⟩, by decide +kernel⟩
theorem dX9_look_0 : decode cX9_look 0 = .ok (.aload_n 0, 1) := by decide +kernel
theorem dX9_look_1 : decode cX9_look 1 = .ok (.getfield 15, 3) := by decide +kernel
theorem dX9_look_4 : decode cX9_look 4 = .ok (.iload_n 1, 1) := by decide +kernel
theorem dX9_look_5 : decode cX9_look 5 = .ok (.invokevirtual 36, 3) := by decide +kernel
theorem dX9_look_8 : decode cX9_look 8 = .ok (.iconst 2, 1) := by decide +kernel
theorem dX9_look_9 : decode cX9_look 9 = .ok (.if_icmp .eq 6, 3) := by decide +kernel
theorem dX9_look_12 : decode cX9_look 12 = .ok (.bipush (-3), 2) := by decide +kernel
theorem dX9_look_14 : decode cX9_look 14 = .ok (.ireturn, 1) := by decide +kernel
theorem dX9_look_15 : decode cX9_look 15 = .ok (.aload_n 0, 1) := by decide +kernel
theorem dX9_look_16 : decode cX9_look 16 = .ok (.getfield 11, 3) := by decide +kernel
theorem dX9_look_19 : decode cX9_look 19 = .ok (.iload_n 2, 1) := by decide +kernel
theorem dX9_look_20 : decode cX9_look 20 = .ok (.iload_n 3, 1) := by decide +kernel
theorem dX9_look_21 : decode cX9_look 21 = .ok (.invokestatic 83, 3) := by decide +kernel
theorem dX9_look_24 : decode cX9_look 24 = .ok (.ifCond .eq 21, 3) := by decide +kernel
theorem dX9_look_27 : decode cX9_look 27 = .ok (.iload_n 3, 1) := by decide +kernel
theorem dX9_look_28 : decode cX9_look 28 = .ok (.iconst 1, 1) := by decide +kernel
theorem dX9_look_29 : decode cX9_look 29 = .ok (.if_icmp .ne 7, 3) := by decide +kernel
theorem dX9_look_32 : decode cX9_look 32 = .ok (.iload_n 1, 1) := by decide +kernel
theorem dX9_look_33 : decode cX9_look 33 = .ok (.goto 11, 3) := by decide +kernel
theorem dX9_look_36 : decode cX9_look 36 = .ok (.aload_n 0, 1) := by decide +kernel
theorem dX9_look_37 : decode cX9_look 37 = .ok (.getfield 15, 3) := by decide +kernel
theorem dX9_look_40 : decode cX9_look 40 = .ok (.iload_n 1, 1) := by decide +kernel
theorem dX9_look_41 : decode cX9_look 41 = .ok (.invokevirtual 87, 3) := by decide +kernel
theorem dX9_look_44 : decode cX9_look 44 = .ok (.ireturn, 1) := by decide +kernel
theorem dX9_look_45 : decode cX9_look 45 = .ok (.iload_n 3, 1) := by decide +kernel
theorem dX9_look_46 : decode cX9_look 46 = .ok (.bipush 28, 2) := by decide +kernel
theorem dX9_look_48 : decode cX9_look 48 = .ok (.if_icmp .le 6, 3) := by decide +kernel
theorem dX9_look_51 : decode cX9_look 51 = .ok (.bipush (-7), 2) := by decide +kernel
theorem dX9_look_53 : decode cX9_look 53 = .ok (.ireturn, 1) := by decide +kernel
theorem dX9_look_54 : decode cX9_look 54 = .ok (.aload_n 0, 1) := by decide +kernel
theorem dX9_look_55 : decode cX9_look 55 = .ok (.getfield 15, 3) := by decide +kernel
theorem dX9_look_58 : decode cX9_look 58 = .ok (.iload_n 1, 1) := by decide +kernel
theorem dX9_look_59 : decode cX9_look 59 = .ok (.aload_n 0, 1) := by decide +kernel
theorem dX9_look_60 : decode cX9_look 60 = .ok (.getfield 11, 3) := by decide +kernel
theorem dX9_look_63 : decode cX9_look 63 = .ok (.iload_n 2, 1) := by decide +kernel
theorem dX9_look_64 : decode cX9_look 64 = .ok (.iload_n 3, 1) := by decide +kernel
theorem dX9_look_65 : decode cX9_look 65 = .ok (.invokevirtual 90, 3) := by decide +kernel
theorem dX9_look_68 : decode cX9_look 68 = .ok (.istore 4, 2) := by decide +kernel
theorem dX9_look_70 : decode cX9_look 70 = .ok (.iload 4, 2) := by decide +kernel
theorem dX9_look_72 : decode cX9_look 72 = .ok (.ifCond .ge 7, 3) := by decide +kernel
theorem dX9_look_75 : decode cX9_look 75 = .ok (.iconst (-1), 1) := by decide +kernel
theorem dX9_look_76 : decode cX9_look 76 = .ok (.goto 13, 3) := by decide +kernel
theorem dX9_look_79 : decode cX9_look 79 = .ok (.aload_n 0, 1) := by decide +kernel
theorem dX9_look_80 : decode cX9_look 80 = .ok (.getfield 15, 3) := by decide +kernel
theorem dX9_look_83 : decode cX9_look 83 = .ok (.iload_n 1, 1) := by decide +kernel
theorem dX9_look_84 : decode cX9_look 84 = .ok (.iload 4, 2) := by decide +kernel
theorem dX9_look_86 : decode cX9_look 86 = .ok (.invokevirtual 94, 3) := by decide +kernel
theorem dX9_look_89 : decode cX9_look 89 = .ok (.ireturn, 1) := by decide +kernel
set_option maxRecDepth 100000 in
set_option maxHeartbeats 1000000 in
theorem j_X9_look_89 {p : Program} {l : Launch} {e : Env} {s : State} {m : MethodId} {args : Array Value} {below : List Frame} {meth : Method} {c : Code} {D : va_G} {aC : Nat → ClassId} {b0 fu : Nat} {σ0 τ : tM} {v : Int32}  (C : tCx p l s m args meth c yX9_look.cls cX9_look 5 (some .int) D aC b0 σ0) (htab : ∀ x ∈ c.exceptionTable.toList, False) (hin : meth.name = yX9_look.name)  {s0 : Int32} {σ : tM} (hm : J_X9_look_89 b0 fu  s0 σ = some (v, τ)) : tX p l e s m args below meth c 5 3 76 D aC b0 σ0 (.inl (some (.int v))) τ 89 [] [.int (s0)] σ := by
  unfold J_X9_look_89 at hm
  obtain ⟨rfl, rfl⟩ := ret_e hm
  exact zx_iret C rfl rfl rfl dX9_look_89
set_option maxRecDepth 100000 in
set_option maxHeartbeats 1000000 in
theorem j_X9_look_44 {p : Program} {l : Launch} {e : Env} {s : State} {m : MethodId} {args : Array Value} {below : List Frame} {meth : Method} {c : Code} {D : va_G} {aC : Nat → ClassId} {b0 fu : Nat} {σ0 τ : tM} {v : Int32}  (C : tCx p l s m args meth c yX9_look.cls cX9_look 5 (some .int) D aC b0 σ0) (htab : ∀ x ∈ c.exceptionTable.toList, False) (hin : meth.name = yX9_look.name)  {s0 : Int32} {σ : tM} (hm : J_X9_look_44 b0 fu  s0 σ = some (v, τ)) : tX p l e s m args below meth c 5 3 76 D aC b0 σ0 (.inl (some (.int v))) τ 44 [] [.int (s0)] σ := by
  unfold J_X9_look_44 at hm
  obtain ⟨rfl, rfl⟩ := ret_e hm
  exact zx_iret C rfl rfl rfl dX9_look_44
set_option maxRecDepth 100000 in
set_option maxHeartbeats 1000000 in
theorem c_X9_look {l : Launch} {D : va_G} {aC : Nat → ClassId} {b0 fu : Nat} {a0 : Nat} {p0 : Int32} {p1 : Int32} {p2 : Int32} {σ τ : tM} {v : Int32} (hm : m_X9_look b0 fu a0 p0 p1 p2 σ = some (v, τ)) : tMt l D aC b0 yX9_look (Cond.code yX9_look cX9_look 5 (some .int)) 3 76 [.ref (a0), .int (p0), .int (p1), .int (p2)] σ (.inl (some (.int v))) τ := by
  unfold m_X9_look at hm
  obtain ⟨hg, hm⟩ := grw_e hm
  refine tMt_of (n := 0) rfl (Nat.le_of_ble_eq_true rfl) hg ?_
  intro p e s m below meth c C htab hin
  refine zx_lv [0, 1, 2, 3] [(0, .ref (a0)), (1, .int (p0)), (2, .int (p1)), (3, .int (p2))] rfl ?_
  refine zx_aload_n C dX9_look_0 0 rfl ?_
  obtain ⟨k1, i2, hm⟩ := ckO_e hm
  obtain ⟨a3, h4, hm⟩ := osm_e hm
  refine zx_get (j := 0) C tC_9 k1 i2 ⟨by decide, Or.inl W_2_20⟩ dX9_look_1 (.ref a3) (rf_s h4) ?_
  refine zx_iload_n C dX9_look_4 1 rfl ?_
  obtain ⟨k5, i6, hm⟩ := ckO_e hm
  obtain ⟨v7, ρ8, h9, hm⟩ := cll_e hm
  refine zx_callV (σ := σ) C [.int (p0)] tC_8 k5 i6 Y_X8_kind W_4_92 W_3_80 W_3_81 (c_X8_kind h9) (by decide) (by decide) rfl (Nat.le_of_ble_eq_true rfl) dX9_look_5 rfl ?_
  refine zx_iconst (v := 2) C dX9_look_8 (by decide) ?_
  refine zx_icmp_eq C 15 dX9_look_9 (by decide) (fun c10 => ?_) (fun c10 => ?_)
  · replace hm := ip_e hm c10
    refine zx_aload_n C dX9_look_15 0 rfl ?_
    obtain ⟨k11, i12, hm⟩ := ckO_e hm
    obtain ⟨a13, h14, hm⟩ := osm_e hm
    refine zx_get (j := 1) C tC_9 k11 i12 ⟨by decide, Or.inl W_2_21⟩ dX9_look_16 (.ref a13) (rf_s h14) ?_
    refine zx_iload_n C dX9_look_19 2 rfl ?_
    refine zx_iload_n C dX9_look_20 3 rfl ?_
    obtain ⟨v15, ρ16, h17, hm⟩ := cll_e hm
    refine zx_callS (σ := ρ8) C [.ref (a13), .int (p1), .int (p2)] Y_X3_isDots W_4_93 W_4_94 (c_X3_isDots h17) (by decide) (by decide) rfl (Nat.le_of_ble_eq_true rfl) dX9_look_21 rfl ?_
    refine zx_if_eq C 45 dX9_look_24 (by decide) (fun c18 => ?_) (fun c18 => ?_)
    · replace hm := ip_e hm c18
      refine zx_iload_n C dX9_look_45 3 rfl ?_
      refine zx_bipush (v := 28) C dX9_look_46 (by decide) ?_
      refine zx_icmp_le C 54 dX9_look_48 (by decide) (fun c19 => ?_) (fun c19 => ?_)
      · replace hm := ip_e hm c19
        refine zx_aload_n C dX9_look_54 0 rfl ?_
        obtain ⟨k20, i21, hm⟩ := ckO_e hm
        obtain ⟨a22, h23, hm⟩ := osm_e hm
        refine zx_get (j := 0) C tC_9 k20 i21 ⟨by decide, Or.inl W_2_20⟩ dX9_look_55 (.ref a22) (rf_s h23) ?_
        refine zx_iload_n C dX9_look_58 1 rfl ?_
        refine zx_aload_n C dX9_look_59 0 rfl ?_
        obtain ⟨a24, h25, hm⟩ := osm_e hm
        refine zx_get (j := 1) C tC_9 k20 i21 ⟨by decide, Or.inl W_2_21⟩ dX9_look_60 (.ref a24) (rf_s h25) ?_
        refine zx_iload_n C dX9_look_63 2 rfl ?_
        refine zx_iload_n C dX9_look_64 3 rfl ?_
        obtain ⟨k26, i27, hm⟩ := ckO_e hm
        obtain ⟨v28, ρ29, h30, hm⟩ := cll_e hm
        refine zx_callV (σ := ρ16) C [.int (p0), .ref (a24), .int (p1), .int (p2)] tC_8 k26 i27 Y_X8_find W_4_100 W_4_101 W_4_102 (c_X8_find h30) (by decide) (by decide) rfl (Nat.le_of_ble_eq_true rfl) dX9_look_65 rfl ?_
        refine zx_istore C [(4, .int (v28)), (0, .ref (a0)), (1, .int (p0)), (2, .int (p1)), (3, .int (p2))] dX9_look_68 (by decide) rfl ?_
        refine zx_iload C dX9_look_70 0 rfl ?_
        refine zx_if_ge C 79 dX9_look_72 (by decide) (fun c31 => ?_) (fun c31 => ?_)
        · replace hm := ip_e hm c31
          refine zx_aload_n C dX9_look_79 1 rfl ?_
          obtain ⟨k32, i33, hm⟩ := ckO_e hm
          obtain ⟨a34, h35, hm⟩ := osm_e hm
          refine zx_get (j := 0) C tC_9 k32 i33 ⟨by decide, Or.inl W_2_20⟩ dX9_look_80 (.ref a34) (rf_s h35) ?_
          refine zx_iload_n C dX9_look_83 2 rfl ?_
          refine zx_iload C dX9_look_84 0 rfl ?_
          obtain ⟨k36, i37, hm⟩ := ckO_e hm
          obtain ⟨v38, ρ39, h40, hm⟩ := cll_e hm
          refine zx_callV (σ := ρ29) C [.int (p0), .int (v28)] tC_8 k36 i37 Y_X8_nodeAt W_4_124 W_4_125 W_4_126 (c_X8_nodeAt h40) (by decide) (by decide) rfl (Nat.le_of_ble_eq_true rfl) dX9_look_86 rfl ?_
          exact zx_lv [] [] rfl (j_X9_look_89 C htab hin    hm)
        · replace hm := in_e hm c31
          refine zx_iconst (v := (-1)) C dX9_look_75 (by decide) ?_
          refine zx_goto C 89 dX9_look_76 (by decide) ?_
          exact zx_lv [] [] rfl (j_X9_look_89 C htab hin    hm)
      · replace hm := in_e hm c19
        refine zx_bipush (v := (-7)) C dX9_look_51 (by decide) ?_
        obtain ⟨rfl, rfl⟩ := ret_e hm
        exact zx_iret C rfl rfl rfl dX9_look_53
    · replace hm := in_e hm c18
      refine zx_iload_n C dX9_look_27 3 rfl ?_
      refine zx_iconst (v := 1) C dX9_look_28 (by decide) ?_
      refine zx_icmp_ne C 36 dX9_look_29 (by decide) (fun c41 => ?_) (fun c41 => ?_)
      · replace hm := in_e hm c41
        refine zx_aload_n C dX9_look_36 0 rfl ?_
        obtain ⟨k42, i43, hm⟩ := ckO_e hm
        obtain ⟨a44, h45, hm⟩ := osm_e hm
        refine zx_get (j := 0) C tC_9 k42 i43 ⟨by decide, Or.inl W_2_20⟩ dX9_look_37 (.ref a44) (rf_s h45) ?_
        refine zx_iload_n C dX9_look_40 1 rfl ?_
        obtain ⟨k46, i47, hm⟩ := ckO_e hm
        obtain ⟨v48, ρ49, h50, hm⟩ := cll_e hm
        refine zx_callV (σ := ρ16) C [.int (p0)] tC_8 k46 i47 Y_X8_parent W_4_96 W_4_97 W_4_98 (c_X8_parent h50) (by decide) (by decide) rfl (Nat.le_of_ble_eq_true rfl) dX9_look_41 rfl ?_
        exact zx_lv [] [] rfl (j_X9_look_44 C htab hin    hm)
      · replace hm := ip_e hm c41
        refine zx_iload_n C dX9_look_32 1 rfl ?_
        refine zx_goto C 44 dX9_look_33 (by decide) ?_
        exact zx_lv [] [] rfl (j_X9_look_44 C htab hin    hm)
  · replace hm := in_e hm c10
    refine zx_bipush (v := (-3)) C dX9_look_12 (by decide) ?_
    obtain ⟨rfl, rfl⟩ := ret_e hm
    exact zx_iret C rfl rfl rfl dX9_look_14
abbrev cX9_standIn : ByteArray := prog_11_method_8_code
def yX9_standIn : MethodName := ⟨"SyncTree$Walker", "standIn", "(I)Z"⟩
theorem Y_X9_standIn : tY yX9_standIn cX9_standIn 5 (some .boolean) 1 := ⟨W_4_131, W_1_7, ⟨by decide +kernel, by decide +kernel⟩, by decide +kernel⟩
theorem dX9_standIn_0 : decode cX9_standIn 0 = .ok (.aload_n 0, 1) := by decide +kernel
theorem dX9_standIn_1 : decode cX9_standIn 1 = .ok (.getfield 15, 3) := by decide +kernel
theorem dX9_standIn_4 : decode cX9_standIn 4 = .ok (.iload_n 1, 1) := by decide +kernel
theorem dX9_standIn_5 : decode cX9_standIn 5 = .ok (.invokevirtual 97, 3) := by decide +kernel
theorem dX9_standIn_8 : decode cX9_standIn 8 = .ok (.istore_n 2, 1) := by decide +kernel
theorem dX9_standIn_9 : decode cX9_standIn 9 = .ok (.aload_n 0, 1) := by decide +kernel
theorem dX9_standIn_10 : decode cX9_standIn 10 = .ok (.getfield 51, 3) := by decide +kernel
theorem dX9_standIn_13 : decode cX9_standIn 13 = .ok (.aload_n 0, 1) := by decide +kernel
theorem dX9_standIn_14 : decode cX9_standIn 14 = .ok (.getfield 63, 3) := by decide +kernel
theorem dX9_standIn_17 : decode cX9_standIn 17 = .ok (.isub, 1) := by decide +kernel
theorem dX9_standIn_18 : decode cX9_standIn 18 = .ok (.istore_n 3, 1) := by decide +kernel
theorem dX9_standIn_19 : decode cX9_standIn 19 = .ok (.aload_n 0, 1) := by decide +kernel
theorem dX9_standIn_20 : decode cX9_standIn 20 = .ok (.getfield 66, 3) := by decide +kernel
theorem dX9_standIn_23 : decode cX9_standIn 23 = .ok (.bipush 8, 2) := by decide +kernel
theorem dX9_standIn_25 : decode cX9_standIn 25 = .ok (.if_icmp .ge 23, 3) := by decide +kernel
theorem dX9_standIn_28 : decode cX9_standIn 28 = .ok (.iload_n 2, 1) := by decide +kernel
theorem dX9_standIn_29 : decode cX9_standIn 29 = .ok (.iconst 1, 1) := by decide +kernel
theorem dX9_standIn_30 : decode cX9_standIn 30 = .ok (.if_icmp .lt 18, 3) := by decide +kernel
theorem dX9_standIn_33 : decode cX9_standIn 33 = .ok (.iload_n 3, 1) := by decide +kernel
theorem dX9_standIn_34 : decode cX9_standIn 34 = .ok (.ifCond .lt 14, 3) := by decide +kernel
theorem dX9_standIn_37 : decode cX9_standIn 37 = .ok (.iload_n 2, 1) := by decide +kernel
theorem dX9_standIn_38 : decode cX9_standIn 38 = .ok (.iload_n 3, 1) := by decide +kernel
theorem dX9_standIn_39 : decode cX9_standIn 39 = .ok (.iadd, 1) := by decide +kernel
theorem dX9_standIn_40 : decode cX9_standIn 40 = .ok (.aload_n 0, 1) := by decide +kernel
theorem dX9_standIn_41 : decode cX9_standIn 41 = .ok (.getfield 11, 3) := by decide +kernel
theorem dX9_standIn_44 : decode cX9_standIn 44 = .ok (.arraylength, 1) := by decide +kernel
theorem dX9_standIn_45 : decode cX9_standIn 45 = .ok (.if_icmp .le 5, 3) := by decide +kernel
theorem dX9_standIn_48 : decode cX9_standIn 48 = .ok (.iconst 0, 1) := by decide +kernel
theorem dX9_standIn_49 : decode cX9_standIn 49 = .ok (.ireturn, 1) := by decide +kernel
theorem dX9_standIn_50 : decode cX9_standIn 50 = .ok (.aload_n 0, 1) := by decide +kernel
theorem dX9_standIn_51 : decode cX9_standIn 51 = .ok (.dup, 1) := by decide +kernel
theorem dX9_standIn_52 : decode cX9_standIn 52 = .ok (.getfield 66, 3) := by decide +kernel
theorem dX9_standIn_55 : decode cX9_standIn 55 = .ok (.iconst 1, 1) := by decide +kernel
theorem dX9_standIn_56 : decode cX9_standIn 56 = .ok (.iadd, 1) := by decide +kernel
theorem dX9_standIn_57 : decode cX9_standIn 57 = .ok (.putfield 66, 3) := by decide +kernel
theorem dX9_standIn_60 : decode cX9_standIn 60 = .ok (.aload_n 0, 1) := by decide +kernel
theorem dX9_standIn_61 : decode cX9_standIn 61 = .ok (.getfield 11, 3) := by decide +kernel
theorem dX9_standIn_64 : decode cX9_standIn 64 = .ok (.aload_n 0, 1) := by decide +kernel
theorem dX9_standIn_65 : decode cX9_standIn 65 = .ok (.getfield 63, 3) := by decide +kernel
theorem dX9_standIn_68 : decode cX9_standIn 68 = .ok (.aload_n 0, 1) := by decide +kernel
theorem dX9_standIn_69 : decode cX9_standIn 69 = .ok (.getfield 11, 3) := by decide +kernel
theorem dX9_standIn_72 : decode cX9_standIn 72 = .ok (.iload_n 2, 1) := by decide +kernel
theorem dX9_standIn_73 : decode cX9_standIn 73 = .ok (.iload_n 3, 1) := by decide +kernel
theorem dX9_standIn_74 : decode cX9_standIn 74 = .ok (.invokestatic 57, 3) := by decide +kernel
theorem dX9_standIn_77 : decode cX9_standIn 77 = .ok (.iconst 0, 1) := by decide +kernel
theorem dX9_standIn_78 : decode cX9_standIn 78 = .ok (.istore 4, 2) := by decide +kernel
theorem dX9_standIn_80 : decode cX9_standIn 80 = .ok (.iload 4, 2) := by decide +kernel
theorem dX9_standIn_82 : decode cX9_standIn 82 = .ok (.iload_n 2, 1) := by decide +kernel
theorem dX9_standIn_83 : decode cX9_standIn 83 = .ok (.if_icmp .ge 27, 3) := by decide +kernel
theorem dX9_standIn_86 : decode cX9_standIn 86 = .ok (.aload_n 0, 1) := by decide +kernel
theorem dX9_standIn_87 : decode cX9_standIn 87 = .ok (.getfield 11, 3) := by decide +kernel
theorem dX9_standIn_90 : decode cX9_standIn 90 = .ok (.iload 4, 2) := by decide +kernel
theorem dX9_standIn_92 : decode cX9_standIn 92 = .ok (.aload_n 0, 1) := by decide +kernel
theorem dX9_standIn_93 : decode cX9_standIn 93 = .ok (.getfield 15, 3) := by decide +kernel
theorem dX9_standIn_96 : decode cX9_standIn 96 = .ok (.iload_n 1, 1) := by decide +kernel
theorem dX9_standIn_97 : decode cX9_standIn 97 = .ok (.iload 4, 2) := by decide +kernel
theorem dX9_standIn_99 : decode cX9_standIn 99 = .ok (.invokevirtual 100, 3) := by decide +kernel
theorem dX9_standIn_102 : decode cX9_standIn 102 = .ok (.i2b, 1) := by decide +kernel
theorem dX9_standIn_103 : decode cX9_standIn 103 = .ok (.bastore, 1) := by decide +kernel
theorem dX9_standIn_104 : decode cX9_standIn 104 = .ok (.iinc 4 1, 3) := by decide +kernel
theorem dX9_standIn_107 : decode cX9_standIn 107 = .ok (.goto (-27), 3) := by decide +kernel
theorem dX9_standIn_110 : decode cX9_standIn 110 = .ok (.aload_n 0, 1) := by decide +kernel
theorem dX9_standIn_111 : decode cX9_standIn 111 = .ok (.iconst 0, 1) := by decide +kernel
theorem dX9_standIn_112 : decode cX9_standIn 112 = .ok (.putfield 63, 3) := by decide +kernel
theorem dX9_standIn_115 : decode cX9_standIn 115 = .ok (.aload_n 0, 1) := by decide +kernel
theorem dX9_standIn_116 : decode cX9_standIn 116 = .ok (.iload_n 2, 1) := by decide +kernel
theorem dX9_standIn_117 : decode cX9_standIn 117 = .ok (.iload_n 3, 1) := by decide +kernel
theorem dX9_standIn_118 : decode cX9_standIn 118 = .ok (.iadd, 1) := by decide +kernel
theorem dX9_standIn_119 : decode cX9_standIn 119 = .ok (.putfield 51, 3) := by decide +kernel
theorem dX9_standIn_122 : decode cX9_standIn 122 = .ok (.iconst 1, 1) := by decide +kernel
theorem dX9_standIn_123 : decode cX9_standIn 123 = .ok (.ireturn, 1) := by decide +kernel
set_option maxRecDepth 100000 in
set_option maxHeartbeats 1000000 in
theorem j_X9_standIn_48 {p : Program} {l : Launch} {e : Env} {s : State} {m : MethodId} {args : Array Value} {below : List Frame} {meth : Method} {c : Code} {D : va_G} {aC : Nat → ClassId} {b0 fu : Nat} {σ0 τ : tM} {v : Int32}  (C : tCx p l s m args meth c yX9_standIn.cls cX9_standIn 5 (some .boolean) D aC b0 σ0) (htab : ∀ x ∈ c.exceptionTable.toList, False) (hin : meth.name = yX9_standIn.name)   {σ : tM} (hm : J_X9_standIn_48 b0 fu   σ = some (v, τ)) : tX p l e s m args below meth c 5 2 44 D aC b0 σ0 (.inl (some (.int v))) τ 48 [] [] σ := by
  unfold J_X9_standIn_48 at hm
  refine zx_iconst (v := 0) C dX9_standIn_48 (by decide) ?_
  obtain ⟨rfl, rfl⟩ := ret_e hm
  exact zx_zret C rfl (by decide) rfl rfl dX9_standIn_49
set_option maxRecDepth 100000 in
set_option maxHeartbeats 1000000 in
theorem l_X9_standIn_80 {p : Program} {l : Launch} {e : Env} {s : State} {m : MethodId} {args : Array Value} {below : List Frame} {meth : Method} {c : Code} {D : va_G} {aC : Nat → ClassId} {b0 fu : Nat} {σ0 τ : tM} {v : Int32}  (C : tCx p l s m args meth c yX9_standIn.cls cX9_standIn 5 (some .boolean) D aC b0 σ0) (htab : ∀ x ∈ c.exceptionTable.toList, False) (hin : meth.name = yX9_standIn.name)  : ∀ (n : Nat) (x0 : Nat) (x1 : Int32) (x2 : Int32) (x3 : Int32) (x4 : Int32) (σ : tM), L_X9_standIn_80 b0 fu  n x0 x1 x2 x3 x4 σ = some (v, τ) → tX p l e s m args below meth c 5 2 44 D aC b0 σ0 (.inl (some (.int v))) τ 80 [(0, .ref (x0)), (1, .int (x1)), (2, .int (x2)), (3, .int (x3)), (4, .int (x4))] [] σ := by
  intro n
  induction n with
  | zero => intro x0 x1 x2 x3 x4 σ hm; unfold L_X9_standIn_80 at hm; cases hm
  | succ n ih =>
    intro x0 x1 x2 x3 x4 σ hm
    unfold L_X9_standIn_80 at hm
    obtain ⟨rc80, hrc⟩ : ∃ z, z = L_X9_standIn_80 b0 fu  n := ⟨_, rfl⟩
    replace hm := ltb_e hm hrc
    rw [← hrc] at ih
    have hrc80 := ih
    clear ih hrc
    refine zx_iload C dX9_standIn_80 4 rfl ?_
    refine zx_iload_n C dX9_standIn_82 2 rfl ?_
    refine zx_icmp_ge C 110 dX9_standIn_83 (by decide) (fun c43 => ?_) (fun c43 => ?_)
    · replace hm := ip_e hm c43
      refine zx_aload_n C dX9_standIn_110 0 rfl ?_
      refine zx_iconst (v := 0) C dX9_standIn_111 (by decide) ?_
      obtain ⟨k44, i45, hm⟩ := ckO_e hm
      refine zx_put (j := 2) (ρ := sI (σ) (x0) 2 (0)) C tC_9 k44 i45 ⟨by decide, Or.inl W_2_22⟩ rfl rfl rfl (sI_ok (fun _ => rfl)) dX9_standIn_112 ?_
      refine zx_aload_n C dX9_standIn_115 0 rfl ?_
      refine zx_iload_n C dX9_standIn_116 2 rfl ?_
      refine zx_iload_n C dX9_standIn_117 3 rfl ?_
      refine zx_iadd C dX9_standIn_118 ?_
      refine zx_put (j := 3) (ρ := sI (sI (σ) (x0) 2 (0)) (x0) 3 ((x2) + (x3))) C tC_9 k44 i45 ⟨by decide, Or.inl W_2_23⟩ rfl rfl rfl (sI_ok (fun _ => rfl)) dX9_standIn_119 ?_
      refine zx_iconst (v := 1) C dX9_standIn_122 (by decide) ?_
      obtain ⟨rfl, rfl⟩ := ret_e hm
      exact zx_zret C rfl (by decide) rfl rfl dX9_standIn_123
    · replace hm := in_e hm c43
      refine zx_aload_n C dX9_standIn_86 0 rfl ?_
      obtain ⟨k46, i47, hm⟩ := ckO_e hm
      obtain ⟨a48, h49, hm⟩ := osm_e hm
      refine zx_get (j := 1) C tC_9 k46 i47 ⟨by decide, Or.inl W_2_21⟩ dX9_standIn_87 (.ref a48) (rf_s h49) ?_
      refine zx_iload C dX9_standIn_90 4 rfl ?_
      refine zx_aload_n C dX9_standIn_92 0 rfl ?_
      obtain ⟨a50, h51, hm⟩ := osm_e hm
      refine zx_get (j := 0) C tC_9 k46 i47 ⟨by decide, Or.inl W_2_20⟩ dX9_standIn_93 (.ref a50) (rf_s h51) ?_
      refine zx_iload_n C dX9_standIn_96 1 rfl ?_
      refine zx_iload C dX9_standIn_97 4 rfl ?_
      obtain ⟨k52, i53, hm⟩ := ckO_e hm
      obtain ⟨v54, ρ55, h56, hm⟩ := cll_e hm
      refine zx_callV (σ := σ) C [.int (x1), .int (x4)] tC_8 k52 i53 Y_X8_textOctet W_4_136 W_4_137 W_4_138 (c_X8_textOctet h56) (by decide) (by decide) rfl (Nat.le_of_ble_eq_true rfl) dX9_standIn_99 rfl ?_
      refine zx_i2b C dX9_standIn_102 ?_
      obtain ⟨n59, k57, i58, hm⟩ := ckR_e hm
      obtain ⟨h60, hm⟩ := ckI_e hm
      refine zx_bast C k57 i58 h60 dX9_standIn_103 ?_
      obtain ⟨y61, hy61⟩ : ∃ z : Int32, z = (x4) + Int32.ofInt 1 := ⟨_, rfl⟩
      replace hm := ltb_e hm hy61
      refine zx_iinc C [(4, .int (y61)), (0, .ref (x0)), (1, .int (x1)), (2, .int (x2)), (3, .int (x3))] dX9_standIn_104 4 rfl hy61.symm (by decide) rfl ?_
      refine zx_goto C 80 dX9_standIn_107 (by decide) ?_
      exact zx_lv [1, 2, 3, 4, 0] [(0, .ref (x0)), (1, .int (x1)), (2, .int (x2)), (3, .int (x3)), (4, .int (y61))] rfl (hrc80 _ _ _ _ _ _ hm)
set_option maxRecDepth 100000 in
set_option maxHeartbeats 1000000 in
theorem c_X9_standIn {l : Launch} {D : va_G} {aC : Nat → ClassId} {b0 fu : Nat} {a0 : Nat} {p0 : Int32} {σ τ : tM} {v : Int32} (hm : m_X9_standIn b0 fu a0 p0 σ = some (v, τ)) : tMt l D aC b0 yX9_standIn (Cond.code yX9_standIn cX9_standIn 5 (some .boolean)) 2 44 [.ref (a0), .int (p0)] σ (.inl (some (.int v))) τ := by
  unfold m_X9_standIn at hm
  obtain ⟨hg, hm⟩ := grw_e hm
  refine tMt_of (n := 0) rfl (Nat.le_of_ble_eq_true rfl) hg ?_
  intro p e s m below meth c C htab hin
  refine zx_lv [0, 1] [(0, .ref (a0)), (1, .int (p0))] rfl ?_
  refine zx_aload_n C dX9_standIn_0 0 rfl ?_
  obtain ⟨k1, i2, hm⟩ := ckO_e hm
  obtain ⟨a3, h4, hm⟩ := osm_e hm
  refine zx_get (j := 0) C tC_9 k1 i2 ⟨by decide, Or.inl W_2_20⟩ dX9_standIn_1 (.ref a3) (rf_s h4) ?_
  refine zx_iload_n C dX9_standIn_4 1 rfl ?_
  obtain ⟨k5, i6, hm⟩ := ckO_e hm
  obtain ⟨v7, ρ8, h9, hm⟩ := cll_e hm
  refine zx_callV (σ := σ) C [.int (p0)] tC_8 k5 i6 Y_X8_size W_4_132 W_4_133 W_4_134 (c_X8_size h9) (by decide) (by decide) rfl (Nat.le_of_ble_eq_true rfl) dX9_standIn_5 rfl ?_
  refine zx_istore_n C [(2, .int (v7)), (0, .ref (a0)), (1, .int (p0))] dX9_standIn_8 rfl (by decide) rfl ?_
  refine zx_aload_n C dX9_standIn_9 1 rfl ?_
  obtain ⟨k10, i11, hm⟩ := ckO_e hm
  refine zx_get (j := 3) C tC_9 k10 i11 ⟨by decide, Or.inl W_2_23⟩ dX9_standIn_10 (.int (tI (ρ8) (a0) 3)) rfl ?_
  refine zx_aload_n C dX9_standIn_13 1 rfl ?_
  refine zx_get (j := 2) C tC_9 k10 i11 ⟨by decide, Or.inl W_2_22⟩ dX9_standIn_14 (.int (tI (ρ8) (a0) 2)) rfl ?_
  refine zx_isub C dX9_standIn_17 ?_
  refine zx_topi (fun y12 hy12 => ?_)
  replace hm := ltb_e hm hy12
  refine zx_istore_n C [(3, .int (y12)), (2, .int (v7)), (0, .ref (a0)), (1, .int (p0))] dX9_standIn_18 rfl (by decide) rfl ?_
  refine zx_aload_n C dX9_standIn_19 2 rfl ?_
  refine zx_get (j := 4) C tC_9 k10 i11 ⟨by decide, Or.inl W_2_24⟩ dX9_standIn_20 (.int (tI (ρ8) (a0) 4)) rfl ?_
  refine zx_bipush (v := 8) C dX9_standIn_23 (by decide) ?_
  refine zx_icmp_ge C 48 dX9_standIn_25 (by decide) (fun c13 => ?_) (fun c13 => ?_)
  · replace hm := ip_e hm c13
    exact zx_lv [] [] rfl (j_X9_standIn_48 C htab hin    hm)
  · replace hm := in_e hm c13
    refine zx_iload_n C dX9_standIn_28 1 rfl ?_
    refine zx_iconst (v := 1) C dX9_standIn_29 (by decide) ?_
    refine zx_icmp_lt C 48 dX9_standIn_30 (by decide) (fun c14 => ?_) (fun c14 => ?_)
    · replace hm := ip_e hm c14
      exact zx_lv [] [] rfl (j_X9_standIn_48 C htab hin    hm)
    · replace hm := in_e hm c14
      refine zx_iload_n C dX9_standIn_33 0 rfl ?_
      refine zx_if_lt C 48 dX9_standIn_34 (by decide) (fun c15 => ?_) (fun c15 => ?_)
      · replace hm := ip_e hm c15
        exact zx_lv [] [] rfl (j_X9_standIn_48 C htab hin    hm)
      · replace hm := in_e hm c15
        refine zx_iload_n C dX9_standIn_37 1 rfl ?_
        refine zx_iload_n C dX9_standIn_38 0 rfl ?_
        refine zx_iadd C dX9_standIn_39 ?_
        refine zx_aload_n C dX9_standIn_40 2 rfl ?_
        obtain ⟨a16, h17, hm⟩ := osm_e hm
        refine zx_get (j := 1) C tC_9 k10 i11 ⟨by decide, Or.inl W_2_21⟩ dX9_standIn_41 (.ref a16) (rf_s h17) ?_
        obtain ⟨n20, k18, i19, hm⟩ := ckR_e hm
        refine zx_alen C k18 (by decide) i19 dX9_standIn_44 ?_
        refine zx_icmp_le C 50 dX9_standIn_45 (by decide) (fun c21 => ?_) (fun c21 => ?_)
        · replace hm := ip_e hm c21
          refine zx_aload_n C dX9_standIn_50 2 rfl ?_
          refine zx_dup C dX9_standIn_51 rfl ?_
          refine zx_get (j := 4) C tC_9 k10 i11 ⟨by decide, Or.inl W_2_24⟩ dX9_standIn_52 (.int (tI (ρ8) (a0) 4)) rfl ?_
          refine zx_iconst (v := 1) C dX9_standIn_55 (by decide) ?_
          refine zx_iadd C dX9_standIn_56 ?_
          refine zx_put (j := 4) (ρ := sI (ρ8) (a0) 4 ((tI (ρ8) (a0) 4) + (1))) C tC_9 k10 i11 ⟨by decide, Or.inl W_2_24⟩ rfl rfl rfl (sI_ok (fun _ => rfl)) dX9_standIn_57 ?_
          refine zx_aload_n C dX9_standIn_60 2 rfl ?_
          obtain ⟨a22, h23, hm⟩ := osm_e hm
          refine zx_get (j := 1) C tC_9 k10 i11 ⟨by decide, Or.inl W_2_21⟩ dX9_standIn_61 (.ref a22) (rf_s h23) ?_
          refine zx_aload_n C dX9_standIn_64 2 rfl ?_
          refine zx_get (j := 2) C tC_9 k10 i11 ⟨by decide, Or.inl W_2_22⟩ dX9_standIn_65 (.int (tI (sI (ρ8) (a0) 4 ((tI (ρ8) (a0) 4) + (1))) (a0) 2)) rfl ?_
          refine zx_aload_n C dX9_standIn_68 2 rfl ?_
          obtain ⟨a24, h25, hm⟩ := osm_e hm
          refine zx_get (j := 1) C tC_9 k10 i11 ⟨by decide, Or.inl W_2_21⟩ dX9_standIn_69 (.ref a24) (rf_s h25) ?_
          refine zx_iload_n C dX9_standIn_72 1 rfl ?_
          refine zx_iload_n C dX9_standIn_73 0 rfl ?_
          obtain ⟨n28, k26, i27, hm⟩ := ckR_e hm
          obtain ⟨n31, k29, i30, hm⟩ := ckR_e hm
          obtain ⟨h32, hm⟩ := ckC_e hm
          obtain ⟨h62, hm⟩ := ckF_e hm
          refine zx_copyB (σ := sI (ρ8) (a0) 4 ((tI (ρ8) (a0) 4) + (1))) C W_4_79 W_2_135 W_2_134 W_1_11 k26 i27 k29 i30 h32 h62 (by decide) (by decide) (Nat.le_of_ble_eq_true rfl) dX9_standIn_74 ?_
          refine zx_mem (fun ρ34 hρ34 => ?_)
          replace hm := ltb_e hm hρ34
          have k35 : tk ρ34 (a0) = .inl 9 := by rw [hρ34]; exact k10
          have i36 : tIn b0 ρ34 (a0) := by rw [hρ34]; exact i11
          have k37 : tk ρ34 (a16) = .inr (1, n20) := by rw [hρ34]; exact k18
          have i38 : tIn b0 ρ34 (a16) := by rw [hρ34]; exact i19
          have k39 : tk ρ34 (a22) = .inr (1, n28) := by rw [hρ34]; exact k26
          have i40 : tIn b0 ρ34 (a22) := by rw [hρ34]; exact i27
          have k41 : tk ρ34 (a24) = .inr (1, n31) := by rw [hρ34]; exact k29
          have i42 : tIn b0 ρ34 (a24) := by rw [hρ34]; exact i30
          refine zx_iconst (v := 0) C dX9_standIn_77 (by decide) ?_
          refine zx_istore C [(4, .int (0)), (3, .int (y12)), (2, .int (v7)), (0, .ref (a0)), (1, .int (p0))] dX9_standIn_78 (by decide) rfl ?_
          exact zx_lv [3, 4, 2, 1, 0] [(0, .ref (a0)), (1, .int (p0)), (2, .int (v7)), (3, .int (y12)), (4, .int (0))] rfl (l_X9_standIn_80 C htab hin  _ _ _ _ _ _ _ hm)
        · replace hm := in_e hm c21
          exact zx_lv [] [] rfl (j_X9_standIn_48 C htab hin    hm)
abbrev cX10_feed : ByteArray := prog_1_method_4_code
def yX10_feed : MethodName := ⟨"SyncTree", "feed", "(IIIII)I"⟩
theorem Y_X10_feed : tY yX10_feed cX10_feed 6 (some .int) 5 := ⟨W_3_11, W_1_1, ⟨by decide +kernel, by decide +kernel⟩, by decide +kernel⟩
theorem dX10_feed_0 : decode cX10_feed 0 = .ok (.aload_n 0, 1) := by decide +kernel
theorem dX10_feed_1 : decode cX10_feed 1 = .ok (.getfield 62, 3) := by decide +kernel
theorem dX10_feed_4 : decode cX10_feed 4 = .ok (.invokevirtual 108, 3) := by decide +kernel
theorem dX10_feed_7 : decode cX10_feed 7 = .ok (.ifCond .ne 6, 3) := by decide +kernel
theorem dX10_feed_10 : decode cX10_feed 10 = .ok (.bipush (-9), 2) := by decide +kernel
theorem dX10_feed_12 : decode cX10_feed 12 = .ok (.ireturn, 1) := by decide +kernel
theorem dX10_feed_13 : decode cX10_feed 13 = .ok (.aload_n 0, 1) := by decide +kernel
theorem dX10_feed_14 : decode cX10_feed 14 = .ok (.getfield 62, 3) := by decide +kernel
theorem dX10_feed_17 : decode cX10_feed 17 = .ok (.iload_n 1, 1) := by decide +kernel
theorem dX10_feed_18 : decode cX10_feed 18 = .ok (.invokevirtual 112, 3) := by decide +kernel
theorem dX10_feed_21 : decode cX10_feed 21 = .ok (.aload_n 0, 1) := by decide +kernel
theorem dX10_feed_22 : decode cX10_feed 22 = .ok (.getfield 62, 3) := by decide +kernel
theorem dX10_feed_25 : decode cX10_feed 25 = .ok (.iload_n 2, 1) := by decide +kernel
theorem dX10_feed_26 : decode cX10_feed 26 = .ok (.invokevirtual 112, 3) := by decide +kernel
theorem dX10_feed_29 : decode cX10_feed 29 = .ok (.aload_n 0, 1) := by decide +kernel
theorem dX10_feed_30 : decode cX10_feed 30 = .ok (.getfield 62, 3) := by decide +kernel
theorem dX10_feed_33 : decode cX10_feed 33 = .ok (.iload_n 3, 1) := by decide +kernel
theorem dX10_feed_34 : decode cX10_feed 34 = .ok (.invokevirtual 112, 3) := by decide +kernel
theorem dX10_feed_37 : decode cX10_feed 37 = .ok (.aload_n 0, 1) := by decide +kernel
theorem dX10_feed_38 : decode cX10_feed 38 = .ok (.getfield 62, 3) := by decide +kernel
theorem dX10_feed_41 : decode cX10_feed 41 = .ok (.iload 4, 2) := by decide +kernel
theorem dX10_feed_43 : decode cX10_feed 43 = .ok (.invokevirtual 112, 3) := by decide +kernel
theorem dX10_feed_46 : decode cX10_feed 46 = .ok (.aload_n 0, 1) := by decide +kernel
theorem dX10_feed_47 : decode cX10_feed 47 = .ok (.getfield 62, 3) := by decide +kernel
theorem dX10_feed_50 : decode cX10_feed 50 = .ok (.iload 5, 2) := by decide +kernel
theorem dX10_feed_52 : decode cX10_feed 52 = .ok (.invokevirtual 112, 3) := by decide +kernel
theorem dX10_feed_55 : decode cX10_feed 55 = .ok (.aload_n 0, 1) := by decide +kernel
theorem dX10_feed_56 : decode cX10_feed 56 = .ok (.getfield 62, 3) := by decide +kernel
theorem dX10_feed_59 : decode cX10_feed 59 = .ok (.getfield 115, 3) := by decide +kernel
theorem dX10_feed_62 : decode cX10_feed 62 = .ok (.ireturn, 1) := by decide +kernel
set_option maxRecDepth 100000 in
set_option maxHeartbeats 1000000 in
theorem c_X10_feed {l : Launch} {D : va_G} {aC : Nat → ClassId} {b0 fu : Nat} {a0 : Nat} {p0 : Int32} {p1 : Int32} {p2 : Int32} {p3 : Int32} {p4 : Int32} {σ τ : tM} {v : Int32} (hm : m_X10_feed b0 fu a0 p0 p1 p2 p3 p4 σ = some (v, τ)) : tMt l D aC b0 yX10_feed (Cond.code yX10_feed cX10_feed 6 (some .int)) 1 22 [.ref (a0), .int (p0), .int (p1), .int (p2), .int (p3), .int (p4)] σ (.inl (some (.int v))) τ := by
  unfold m_X10_feed at hm
  obtain ⟨hg, hm⟩ := grw_e hm
  refine tMt_of (n := 0) rfl (Nat.le_of_ble_eq_true rfl) hg ?_
  intro p e s m below meth c C htab hin
  refine zx_lv [0, 1, 2, 3, 4, 5] [(0, .ref (a0)), (1, .int (p0)), (2, .int (p1)), (3, .int (p2)), (4, .int (p3)), (5, .int (p4))] rfl ?_
  refine zx_aload_n C dX10_feed_0 0 rfl ?_
  obtain ⟨k1, i2, hm⟩ := ckO_e hm
  obtain ⟨a3, h4, hm⟩ := osm_e hm
  refine zx_get (j := 6) C tC_10 k1 i2 ⟨by decide, Or.inl W_2_219⟩ dX10_feed_1 (.ref a3) (rf_s h4) ?_
  obtain ⟨k5, i6, hm⟩ := ckO_e hm
  obtain ⟨v7, ρ8, h9, hm⟩ := cll_e hm
  refine zx_callV (σ := σ) C [] tC_6 k5 i6 Y_X6_hasSpace W_3_12 W_3_13 W_3_14 (c_X6_hasSpace h9) (by decide) (by decide) rfl (Nat.le_of_ble_eq_true rfl) dX10_feed_4 rfl ?_
  refine zx_if_ne C 13 dX10_feed_7 (by decide) (fun c10 => ?_) (fun c10 => ?_)
  · replace hm := in_e hm c10
    refine zx_aload_n C dX10_feed_13 0 rfl ?_
    obtain ⟨k11, i12, hm⟩ := ckO_e hm
    obtain ⟨a13, h14, hm⟩ := osm_e hm
    refine zx_get (j := 6) C tC_10 k11 i12 ⟨by decide, Or.inl W_2_219⟩ dX10_feed_14 (.ref a13) (rf_s h14) ?_
    refine zx_iload_n C dX10_feed_17 1 rfl ?_
    obtain ⟨k15, i16, hm⟩ := ckO_e hm
    obtain ⟨v17, ρ18, h19, hm⟩ := cll_e hm
    refine zx_callV (σ := ρ8) C [.int (p0)] tC_6 k15 i16 Y_X6_append W_3_16 W_3_17 W_3_18 (c_X6_append h19) (by decide) (by decide) rfl (Nat.le_of_ble_eq_true rfl) dX10_feed_18 rfl ?_
    refine zx_aload_n C dX10_feed_21 0 rfl ?_
    obtain ⟨k20, i21, hm⟩ := ckO_e hm
    obtain ⟨a22, h23, hm⟩ := osm_e hm
    refine zx_get (j := 6) C tC_10 k20 i21 ⟨by decide, Or.inl W_2_219⟩ dX10_feed_22 (.ref a22) (rf_s h23) ?_
    refine zx_iload_n C dX10_feed_25 2 rfl ?_
    obtain ⟨k24, i25, hm⟩ := ckO_e hm
    obtain ⟨v26, ρ27, h28, hm⟩ := cll_e hm
    refine zx_callV (σ := ρ18) C [.int (p1)] tC_6 k24 i25 Y_X6_append W_3_16 W_3_17 W_3_18 (c_X6_append h28) (by decide) (by decide) rfl (Nat.le_of_ble_eq_true rfl) dX10_feed_26 rfl ?_
    refine zx_aload_n C dX10_feed_29 0 rfl ?_
    obtain ⟨k29, i30, hm⟩ := ckO_e hm
    obtain ⟨a31, h32, hm⟩ := osm_e hm
    refine zx_get (j := 6) C tC_10 k29 i30 ⟨by decide, Or.inl W_2_219⟩ dX10_feed_30 (.ref a31) (rf_s h32) ?_
    refine zx_iload_n C dX10_feed_33 3 rfl ?_
    obtain ⟨k33, i34, hm⟩ := ckO_e hm
    obtain ⟨v35, ρ36, h37, hm⟩ := cll_e hm
    refine zx_callV (σ := ρ27) C [.int (p2)] tC_6 k33 i34 Y_X6_append W_3_16 W_3_17 W_3_18 (c_X6_append h37) (by decide) (by decide) rfl (Nat.le_of_ble_eq_true rfl) dX10_feed_34 rfl ?_
    refine zx_aload_n C dX10_feed_37 0 rfl ?_
    obtain ⟨k38, i39, hm⟩ := ckO_e hm
    obtain ⟨a40, h41, hm⟩ := osm_e hm
    refine zx_get (j := 6) C tC_10 k38 i39 ⟨by decide, Or.inl W_2_219⟩ dX10_feed_38 (.ref a40) (rf_s h41) ?_
    refine zx_iload C dX10_feed_41 4 rfl ?_
    obtain ⟨k42, i43, hm⟩ := ckO_e hm
    obtain ⟨v44, ρ45, h46, hm⟩ := cll_e hm
    refine zx_callV (σ := ρ36) C [.int (p3)] tC_6 k42 i43 Y_X6_append W_3_16 W_3_17 W_3_18 (c_X6_append h46) (by decide) (by decide) rfl (Nat.le_of_ble_eq_true rfl) dX10_feed_43 rfl ?_
    refine zx_aload_n C dX10_feed_46 0 rfl ?_
    obtain ⟨k47, i48, hm⟩ := ckO_e hm
    obtain ⟨a49, h50, hm⟩ := osm_e hm
    refine zx_get (j := 6) C tC_10 k47 i48 ⟨by decide, Or.inl W_2_219⟩ dX10_feed_47 (.ref a49) (rf_s h50) ?_
    refine zx_iload C dX10_feed_50 5 rfl ?_
    obtain ⟨k51, i52, hm⟩ := ckO_e hm
    obtain ⟨v53, ρ54, h55, hm⟩ := cll_e hm
    refine zx_callV (σ := ρ45) C [.int (p4)] tC_6 k51 i52 Y_X6_append W_3_16 W_3_17 W_3_18 (c_X6_append h55) (by decide) (by decide) rfl (Nat.le_of_ble_eq_true rfl) dX10_feed_52 rfl ?_
    refine zx_aload_n C dX10_feed_55 0 rfl ?_
    obtain ⟨k56, i57, hm⟩ := ckO_e hm
    obtain ⟨a58, h59, hm⟩ := osm_e hm
    refine zx_get (j := 6) C tC_10 k56 i57 ⟨by decide, Or.inl W_2_219⟩ dX10_feed_56 (.ref a58) (rf_s h59) ?_
    obtain ⟨k60, i61, hm⟩ := ckO_e hm
    refine zx_get (j := 1) C tC_6 k60 i61 ⟨by decide, Or.inr ⟨_, W_2_44⟩⟩ dX10_feed_59 (.int (tI (ρ54) (a58) 1)) rfl ?_
    obtain ⟨rfl, rfl⟩ := ret_e hm
    exact zx_iret C rfl rfl rfl dX10_feed_62
  · replace hm := ip_e hm c10
    refine zx_bipush (v := (-9)) C dX10_feed_10 (by decide) ?_
    obtain ⟨rfl, rfl⟩ := ret_e hm
    exact zx_iret C rfl rfl rfl dX10_feed_12
abbrev cX10_isHeld : ByteArray := prog_1_method_19_code
def yX10_isHeld : MethodName := ⟨"SyncTree", "isHeld", "(I)Z"⟩
theorem Y_X10_isHeld : tY yX10_isHeld cX10_isHeld 3 (some .boolean) 1 := ⟨W_5_87, W_1_1, ⟨by decide +kernel, by decide +kernel⟩, by decide +kernel⟩
theorem dX10_isHeld_0 : decode cX10_isHeld 0 = .ok (.iconst 0, 1) := by decide +kernel
theorem dX10_isHeld_1 : decode cX10_isHeld 1 = .ok (.istore_n 2, 1) := by decide +kernel
theorem dX10_isHeld_2 : decode cX10_isHeld 2 = .ok (.iload_n 2, 1) := by decide +kernel
theorem dX10_isHeld_3 : decode cX10_isHeld 3 = .ok (.bipush 16, 2) := by decide +kernel
theorem dX10_isHeld_5 : decode cX10_isHeld 5 = .ok (.if_icmp .ge 21, 3) := by decide +kernel
theorem dX10_isHeld_8 : decode cX10_isHeld 8 = .ok (.aload_n 0, 1) := by decide +kernel
theorem dX10_isHeld_9 : decode cX10_isHeld 9 = .ok (.getfield 76, 3) := by decide +kernel
theorem dX10_isHeld_12 : decode cX10_isHeld 12 = .ok (.iload_n 2, 1) := by decide +kernel
theorem dX10_isHeld_13 : decode cX10_isHeld 13 = .ok (.iaload, 1) := by decide +kernel
theorem dX10_isHeld_14 : decode cX10_isHeld 14 = .ok (.iload_n 1, 1) := by decide +kernel
theorem dX10_isHeld_15 : decode cX10_isHeld 15 = .ok (.if_icmp .ne 5, 3) := by decide +kernel
theorem dX10_isHeld_18 : decode cX10_isHeld 18 = .ok (.iconst 1, 1) := by decide +kernel
theorem dX10_isHeld_19 : decode cX10_isHeld 19 = .ok (.ireturn, 1) := by decide +kernel
theorem dX10_isHeld_20 : decode cX10_isHeld 20 = .ok (.iinc 2 1, 3) := by decide +kernel
theorem dX10_isHeld_23 : decode cX10_isHeld 23 = .ok (.goto (-21), 3) := by decide +kernel
theorem dX10_isHeld_26 : decode cX10_isHeld 26 = .ok (.iconst 0, 1) := by decide +kernel
theorem dX10_isHeld_27 : decode cX10_isHeld 27 = .ok (.ireturn, 1) := by decide +kernel
set_option maxRecDepth 100000 in
set_option maxHeartbeats 1000000 in
theorem l_X10_isHeld_2 {p : Program} {l : Launch} {e : Env} {s : State} {m : MethodId} {args : Array Value} {below : List Frame} {meth : Method} {c : Code} {D : va_G} {aC : Nat → ClassId} {b0 fu : Nat} {σ0 τ : tM} {v : Int32}  (C : tCx p l s m args meth c yX10_isHeld.cls cX10_isHeld 3 (some .boolean) D aC b0 σ0) (htab : ∀ x ∈ c.exceptionTable.toList, False) (hin : meth.name = yX10_isHeld.name)  : ∀ (n : Nat) (x0 : Nat) (x1 : Int32) (x2 : Int32) (σ : tM), L_X10_isHeld_2 b0 fu  n x0 x1 x2 σ = some (v, τ) → tX p l e s m args below meth c 3 0 0 D aC b0 σ0 (.inl (some (.int v))) τ 2 [(0, .ref (x0)), (1, .int (x1)), (2, .int (x2))] [] σ := by
  intro n
  induction n with
  | zero => intro x0 x1 x2 σ hm; unfold L_X10_isHeld_2 at hm; cases hm
  | succ n ih =>
    intro x0 x1 x2 σ hm
    unfold L_X10_isHeld_2 at hm
    obtain ⟨rc2, hrc⟩ : ∃ z, z = L_X10_isHeld_2 b0 fu  n := ⟨_, rfl⟩
    replace hm := ltb_e hm hrc
    rw [← hrc] at ih
    have hrc2 := ih
    clear ih hrc
    refine zx_iload_n C dX10_isHeld_2 2 rfl ?_
    refine zx_bipush (v := 16) C dX10_isHeld_3 (by decide) ?_
    refine zx_icmp_ge C 26 dX10_isHeld_5 (by decide) (fun c1 => ?_) (fun c1 => ?_)
    · replace hm := ip_e hm c1
      refine zx_iconst (v := 0) C dX10_isHeld_26 (by decide) ?_
      obtain ⟨rfl, rfl⟩ := ret_e hm
      exact zx_zret C rfl (by decide) rfl rfl dX10_isHeld_27
    · replace hm := in_e hm c1
      refine zx_aload_n C dX10_isHeld_8 0 rfl ?_
      obtain ⟨k2, i3, hm⟩ := ckO_e hm
      obtain ⟨a4, h5, hm⟩ := osm_e hm
      refine zx_get (j := 9) C tC_10 k2 i3 ⟨by decide, Or.inl W_2_222⟩ dX10_isHeld_9 (.ref a4) (rf_s h5) ?_
      refine zx_iload_n C dX10_isHeld_12 2 rfl ?_
      obtain ⟨n8, k6, i7, hm⟩ := ckR_e hm
      obtain ⟨h9, hm⟩ := ckI_e hm
      refine zx_iald C k6 i7 h9 dX10_isHeld_13 ?_
      refine zx_iload_n C dX10_isHeld_14 1 rfl ?_
      refine zx_icmp_ne C 20 dX10_isHeld_15 (by decide) (fun c10 => ?_) (fun c10 => ?_)
      · replace hm := in_e hm c10
        obtain ⟨y11, hy11⟩ : ∃ z : Int32, z = (x2) + Int32.ofInt 1 := ⟨_, rfl⟩
        replace hm := ltb_e hm hy11
        refine zx_iinc C [(2, .int (y11)), (0, .ref (x0)), (1, .int (x1))] dX10_isHeld_20 2 rfl hy11.symm (by decide) rfl ?_
        refine zx_goto C 2 dX10_isHeld_23 (by decide) ?_
        exact zx_lv [1, 2, 0] [(0, .ref (x0)), (1, .int (x1)), (2, .int (y11))] rfl (hrc2 _ _ _ _ hm)
      · replace hm := ip_e hm c10
        refine zx_iconst (v := 1) C dX10_isHeld_18 (by decide) ?_
        obtain ⟨rfl, rfl⟩ := ret_e hm
        exact zx_zret C rfl (by decide) rfl rfl dX10_isHeld_19
set_option maxRecDepth 100000 in
set_option maxHeartbeats 1000000 in
theorem c_X10_isHeld {l : Launch} {D : va_G} {aC : Nat → ClassId} {b0 fu : Nat} {a0 : Nat} {p0 : Int32} {σ τ : tM} {v : Int32} (hm : m_X10_isHeld b0 fu a0 p0 σ = some (v, τ)) : tMt l D aC b0 yX10_isHeld (Cond.code yX10_isHeld cX10_isHeld 3 (some .boolean)) 0 0 [.ref (a0), .int (p0)] σ (.inl (some (.int v))) τ := by
  unfold m_X10_isHeld at hm
  obtain ⟨hg, hm⟩ := grw_e hm
  refine tMt_of (n := 0) rfl (Nat.le_of_ble_eq_true rfl) hg ?_
  intro p e s m below meth c C htab hin
  refine zx_lv [0, 1] [(0, .ref (a0)), (1, .int (p0))] rfl ?_
  refine zx_iconst (v := 0) C dX10_isHeld_0 (by decide) ?_
  refine zx_istore_n C [(2, .int (0)), (0, .ref (a0)), (1, .int (p0))] dX10_isHeld_1 rfl (by decide) rfl ?_
  exact zx_lv [1, 2, 0] [(0, .ref (a0)), (1, .int (p0)), (2, .int (0))] rfl (l_X10_isHeld_2 C htab hin  _ _ _ _ _ hm)
abbrev cX10_fileOf : ByteArray := prog_1_method_21_code
def yX10_fileOf : MethodName := ⟨"SyncTree", "fileOf", "(I)I"⟩
theorem Y_X10_fileOf : tY yX10_fileOf cX10_fileOf 2 (some .int) 1 := ⟨W_5_141, W_1_1, ⟨by decide +kernel, by decide +kernel⟩, by decide +kernel⟩
theorem dX10_fileOf_0 : decode cX10_fileOf 0 = .ok (.iload_n 1, 1) := by decide +kernel
theorem dX10_fileOf_1 : decode cX10_fileOf 1 = .ok (.ifCond .lt 18, 3) := by decide +kernel
theorem dX10_fileOf_4 : decode cX10_fileOf 4 = .ok (.iload_n 1, 1) := by decide +kernel
theorem dX10_fileOf_5 : decode cX10_fileOf 5 = .ok (.bipush 16, 2) := by decide +kernel
theorem dX10_fileOf_7 : decode cX10_fileOf 7 = .ok (.if_icmp .ge 12, 3) := by decide +kernel
theorem dX10_fileOf_10 : decode cX10_fileOf 10 = .ok (.aload_n 0, 1) := by decide +kernel
theorem dX10_fileOf_11 : decode cX10_fileOf 11 = .ok (.getfield 76, 3) := by decide +kernel
theorem dX10_fileOf_14 : decode cX10_fileOf 14 = .ok (.iload_n 1, 1) := by decide +kernel
theorem dX10_fileOf_15 : decode cX10_fileOf 15 = .ok (.iaload, 1) := by decide +kernel
theorem dX10_fileOf_16 : decode cX10_fileOf 16 = .ok (.ifCond .ge 8, 3) := by decide +kernel
theorem dX10_fileOf_19 : decode cX10_fileOf 19 = .ok (.bipush (-9), 2) := by decide +kernel
theorem dX10_fileOf_21 : decode cX10_fileOf 21 = .ok (.goto 9, 3) := by decide +kernel
theorem dX10_fileOf_24 : decode cX10_fileOf 24 = .ok (.aload_n 0, 1) := by decide +kernel
theorem dX10_fileOf_25 : decode cX10_fileOf 25 = .ok (.getfield 76, 3) := by decide +kernel
theorem dX10_fileOf_28 : decode cX10_fileOf 28 = .ok (.iload_n 1, 1) := by decide +kernel
theorem dX10_fileOf_29 : decode cX10_fileOf 29 = .ok (.iaload, 1) := by decide +kernel
theorem dX10_fileOf_30 : decode cX10_fileOf 30 = .ok (.ireturn, 1) := by decide +kernel
set_option maxRecDepth 100000 in
set_option maxHeartbeats 1000000 in
theorem j_X10_fileOf_30 {p : Program} {l : Launch} {e : Env} {s : State} {m : MethodId} {args : Array Value} {below : List Frame} {meth : Method} {c : Code} {D : va_G} {aC : Nat → ClassId} {b0 fu : Nat} {σ0 τ : tM} {v : Int32}  (C : tCx p l s m args meth c yX10_fileOf.cls cX10_fileOf 2 (some .int) D aC b0 σ0) (htab : ∀ x ∈ c.exceptionTable.toList, False) (hin : meth.name = yX10_fileOf.name)  {s0 : Int32} {σ : tM} (hm : J_X10_fileOf_30 b0 fu  s0 σ = some (v, τ)) : tX p l e s m args below meth c 2 0 0 D aC b0 σ0 (.inl (some (.int v))) τ 30 [] [.int (s0)] σ := by
  unfold J_X10_fileOf_30 at hm
  obtain ⟨rfl, rfl⟩ := ret_e hm
  exact zx_iret C rfl rfl rfl dX10_fileOf_30
set_option maxRecDepth 100000 in
set_option maxHeartbeats 1000000 in
theorem j_X10_fileOf_19 {p : Program} {l : Launch} {e : Env} {s : State} {m : MethodId} {args : Array Value} {below : List Frame} {meth : Method} {c : Code} {D : va_G} {aC : Nat → ClassId} {b0 fu : Nat} {σ0 τ : tM} {v : Int32}  (C : tCx p l s m args meth c yX10_fileOf.cls cX10_fileOf 2 (some .int) D aC b0 σ0) (htab : ∀ x ∈ c.exceptionTable.toList, False) (hin : meth.name = yX10_fileOf.name)   {σ : tM} (hm : J_X10_fileOf_19 b0 fu   σ = some (v, τ)) : tX p l e s m args below meth c 2 0 0 D aC b0 σ0 (.inl (some (.int v))) τ 19 [] [] σ := by
  unfold J_X10_fileOf_19 at hm
  refine zx_bipush (v := (-9)) C dX10_fileOf_19 (by decide) ?_
  refine zx_goto C 30 dX10_fileOf_21 (by decide) ?_
  exact zx_lv [] [] rfl (j_X10_fileOf_30 C htab hin    hm)
set_option maxRecDepth 100000 in
set_option maxHeartbeats 1000000 in
theorem c_X10_fileOf {l : Launch} {D : va_G} {aC : Nat → ClassId} {b0 fu : Nat} {a0 : Nat} {p0 : Int32} {σ τ : tM} {v : Int32} (hm : m_X10_fileOf b0 fu a0 p0 σ = some (v, τ)) : tMt l D aC b0 yX10_fileOf (Cond.code yX10_fileOf cX10_fileOf 2 (some .int)) 0 0 [.ref (a0), .int (p0)] σ (.inl (some (.int v))) τ := by
  unfold m_X10_fileOf at hm
  obtain ⟨hg, hm⟩ := grw_e hm
  refine tMt_of (n := 0) rfl (Nat.le_of_ble_eq_true rfl) hg ?_
  intro p e s m below meth c C htab hin
  refine zx_lv [0, 1] [(0, .ref (a0)), (1, .int (p0))] rfl ?_
  refine zx_iload_n C dX10_fileOf_0 1 rfl ?_
  refine zx_if_lt C 19 dX10_fileOf_1 (by decide) (fun c1 => ?_) (fun c1 => ?_)
  · replace hm := ip_e hm c1
    exact zx_lv [] [] rfl (j_X10_fileOf_19 C htab hin    hm)
  · replace hm := in_e hm c1
    refine zx_iload_n C dX10_fileOf_4 1 rfl ?_
    refine zx_bipush (v := 16) C dX10_fileOf_5 (by decide) ?_
    refine zx_icmp_ge C 19 dX10_fileOf_7 (by decide) (fun c2 => ?_) (fun c2 => ?_)
    · replace hm := ip_e hm c2
      exact zx_lv [] [] rfl (j_X10_fileOf_19 C htab hin    hm)
    · replace hm := in_e hm c2
      refine zx_aload_n C dX10_fileOf_10 0 rfl ?_
      obtain ⟨k3, i4, hm⟩ := ckO_e hm
      obtain ⟨a5, h6, hm⟩ := osm_e hm
      refine zx_get (j := 9) C tC_10 k3 i4 ⟨by decide, Or.inl W_2_222⟩ dX10_fileOf_11 (.ref a5) (rf_s h6) ?_
      refine zx_iload_n C dX10_fileOf_14 1 rfl ?_
      obtain ⟨n9, k7, i8, hm⟩ := ckR_e hm
      obtain ⟨h10, hm⟩ := ckI_e hm
      refine zx_iald C k7 i8 h10 dX10_fileOf_15 ?_
      refine zx_if_ge C 24 dX10_fileOf_16 (by decide) (fun c11 => ?_) (fun c11 => ?_)
      · replace hm := ip_e hm c11
        refine zx_aload_n C dX10_fileOf_24 0 rfl ?_
        obtain ⟨a12, h13, hm⟩ := osm_e hm
        refine zx_get (j := 9) C tC_10 k3 i4 ⟨by decide, Or.inl W_2_222⟩ dX10_fileOf_25 (.ref a12) (rf_s h13) ?_
        refine zx_iload_n C dX10_fileOf_28 1 rfl ?_
        obtain ⟨n16, k14, i15, hm⟩ := ckR_e hm
        obtain ⟨h17, hm⟩ := ckI_e hm
        refine zx_iald C k14 i15 h17 dX10_fileOf_29 ?_
        exact zx_lv [] [] rfl (j_X10_fileOf_30 C htab hin    hm)
      · replace hm := in_e hm c11
        exact zx_lv [] [] rfl (j_X10_fileOf_19 C htab hin    hm)
abbrev cX10_byteAt : ByteArray := prog_1_method_27_code
def yX10_byteAt : MethodName := ⟨"SyncTree", "byteAt", "(II)I"⟩
theorem Y_X10_byteAt : tY yX10_byteAt cX10_byteAt 4 (some .int) 2 := ⟨W_5_188, W_1_1, ⟨by decide +kernel, by decide +kernel⟩, by decide +kernel⟩
theorem dX10_byteAt_0 : decode cX10_byteAt 0 = .ok (.aload_n 0, 1) := by decide +kernel
theorem dX10_byteAt_1 : decode cX10_byteAt 1 = .ok (.getfield 12, 3) := by decide +kernel
theorem dX10_byteAt_4 : decode cX10_byteAt 4 = .ok (.invokevirtual 221, 3) := by decide +kernel
theorem dX10_byteAt_7 : decode cX10_byteAt 7 = .ok (.aload_n 0, 1) := by decide +kernel
theorem dX10_byteAt_8 : decode cX10_byteAt 8 = .ok (.iload_n 1, 1) := by decide +kernel
theorem dX10_byteAt_9 : decode cX10_byteAt 9 = .ok (.invokevirtual 224, 3) := by decide +kernel
theorem dX10_byteAt_12 : decode cX10_byteAt 12 = .ok (.istore_n 3, 1) := by decide +kernel
theorem dX10_byteAt_13 : decode cX10_byteAt 13 = .ok (.iload_n 3, 1) := by decide +kernel
theorem dX10_byteAt_14 : decode cX10_byteAt 14 = .ok (.ifCond .lt 19, 3) := by decide +kernel
theorem dX10_byteAt_17 : decode cX10_byteAt 17 = .ok (.iload_n 2, 1) := by decide +kernel
theorem dX10_byteAt_18 : decode cX10_byteAt 18 = .ok (.ifCond .lt 15, 3) := by decide +kernel
theorem dX10_byteAt_21 : decode cX10_byteAt 21 = .ok (.iload_n 2, 1) := by decide +kernel
theorem dX10_byteAt_22 : decode cX10_byteAt 22 = .ok (.aload_n 0, 1) := by decide +kernel
theorem dX10_byteAt_23 : decode cX10_byteAt 23 = .ok (.getfield 28, 3) := by decide +kernel
theorem dX10_byteAt_26 : decode cX10_byteAt 26 = .ok (.iload_n 3, 1) := by decide +kernel
theorem dX10_byteAt_27 : decode cX10_byteAt 27 = .ok (.invokevirtual 245, 3) := by decide +kernel
theorem dX10_byteAt_30 : decode cX10_byteAt 30 = .ok (.if_icmp .lt 6, 3) := by decide +kernel
theorem dX10_byteAt_33 : decode cX10_byteAt 33 = .ok (.bipush (-9), 2) := by decide +kernel
theorem dX10_byteAt_35 : decode cX10_byteAt 35 = .ok (.ireturn, 1) := by decide +kernel
theorem dX10_byteAt_36 : decode cX10_byteAt 36 = .ok (.aload_n 0, 1) := by decide +kernel
theorem dX10_byteAt_37 : decode cX10_byteAt 37 = .ok (.getfield 28, 3) := by decide +kernel
theorem dX10_byteAt_40 : decode cX10_byteAt 40 = .ok (.iload_n 3, 1) := by decide +kernel
theorem dX10_byteAt_41 : decode cX10_byteAt 41 = .ok (.iload_n 2, 1) := by decide +kernel
theorem dX10_byteAt_42 : decode cX10_byteAt 42 = .ok (.invokevirtual 255, 3) := by decide +kernel
theorem dX10_byteAt_45 : decode cX10_byteAt 45 = .ok (.ireturn, 1) := by decide +kernel
set_option maxRecDepth 100000 in
set_option maxHeartbeats 1000000 in
theorem j_X10_byteAt_33 {p : Program} {l : Launch} {e : Env} {s : State} {m : MethodId} {args : Array Value} {below : List Frame} {meth : Method} {c : Code} {D : va_G} {aC : Nat → ClassId} {b0 fu : Nat} {σ0 τ : tM} {v : (Int32) ⊕ Unit}  (C : tCx p l s m args meth c yX10_byteAt.cls cX10_byteAt 4 (some .int) D aC b0 σ0) (htab : ∀ x ∈ c.exceptionTable.toList, False) (hin : meth.name = yX10_byteAt.name)   {σ : tM} (hm : J_X10_byteAt_33 b0 fu   σ = some (v, τ)) : tX p l e s m args below meth c 4 7 110 D aC b0 σ0 (rxI "java/lang/IllegalStateException" v) τ 33 [] [] σ := by
  unfold J_X10_byteAt_33 at hm
  refine zx_bipush (v := (-9)) C dX10_byteAt_33 (by decide) ?_
  obtain ⟨rfl, rfl⟩ := ret_e hm
  exact zx_iret C rfl rfl rfl dX10_byteAt_35
set_option maxRecDepth 100000 in
set_option maxHeartbeats 1000000 in
theorem c_X10_byteAt {l : Launch} {D : va_G} {aC : Nat → ClassId} {b0 fu : Nat} {a0 : Nat} {p0 : Int32} {p1 : Int32} {σ τ : tM} {v : (Int32) ⊕ Unit} (hm : m_X10_byteAt b0 fu a0 p0 p1 σ = some (v, τ)) : tMt l D aC b0 yX10_byteAt (Cond.code yX10_byteAt cX10_byteAt 4 (some .int)) 7 110 [.ref (a0), .int (p0), .int (p1)] σ (rxI "java/lang/IllegalStateException" v) τ := by
  unfold m_X10_byteAt at hm
  obtain ⟨hg, hm⟩ := grw_e hm
  refine tMt_of (n := 0) rfl (Nat.le_of_ble_eq_true rfl) hg ?_
  intro p e s m below meth c C htab hin
  refine zx_lv [0, 1, 2] [(0, .ref (a0)), (1, .int (p0)), (2, .int (p1))] rfl ?_
  refine zx_aload_n C dX10_byteAt_0 0 rfl ?_
  obtain ⟨k1, i2, hm⟩ := ckO_e hm
  obtain ⟨a3, h4, hm⟩ := osm_e hm
  refine zx_get (j := 0) C tC_10 k1 i2 ⟨by decide, Or.inl W_2_213⟩ dX10_byteAt_1 (.ref a3) (rf_s h4) ?_
  obtain ⟨k5, i6, hm⟩ := ckO_e hm
  rcases clx_e hm with ⟨v7, ρ8, h9, hm⟩ | ⟨ρ8, h9, hm⟩
  · refine zx_callV (σ := σ) C [] tC_0 k5 i6 Y_X0_demandPower W_5_130 W_3_113 W_3_114 (c_X0_demandPower h9) (by decide) (by decide) rfl (Nat.le_of_ble_eq_true rfl) dX10_byteAt_4 rfl ?_
    refine zx_aload_n C dX10_byteAt_7 0 rfl ?_
    refine zx_iload_n C dX10_byteAt_8 1 rfl ?_
    obtain ⟨k10, i11, hm⟩ := ckO_e hm
    obtain ⟨v12, ρ13, h14, hm⟩ := cll_e hm
    refine zx_callV (σ := ρ8) C [.int (p0)] tC_10 k10 i11 Y_X10_fileOf W_5_138 W_5_140 Wp_41 (c_X10_fileOf h14) (by decide) (by decide) rfl (Nat.le_of_ble_eq_true rfl) dX10_byteAt_9 rfl ?_
    refine zx_istore_n C [(3, .int (v12)), (0, .ref (a0)), (1, .int (p0)), (2, .int (p1))] dX10_byteAt_12 rfl (by decide) rfl ?_
    refine zx_iload_n C dX10_byteAt_13 0 rfl ?_
    refine zx_if_lt C 33 dX10_byteAt_14 (by decide) (fun c15 => ?_) (fun c15 => ?_)
    · replace hm := ip_e hm c15
      exact zx_lv [] [] rfl (j_X10_byteAt_33 C htab hin    hm)
    · replace hm := in_e hm c15
      refine zx_iload_n C dX10_byteAt_17 3 rfl ?_
      refine zx_if_lt C 33 dX10_byteAt_18 (by decide) (fun c16 => ?_) (fun c16 => ?_)
      · replace hm := ip_e hm c16
        exact zx_lv [] [] rfl (j_X10_byteAt_33 C htab hin    hm)
      · replace hm := in_e hm c16
        refine zx_iload_n C dX10_byteAt_21 3 rfl ?_
        refine zx_aload_n C dX10_byteAt_22 1 rfl ?_
        obtain ⟨k17, i18, hm⟩ := ckO_e hm
        obtain ⟨a19, h20, hm⟩ := osm_e hm
        refine zx_get (j := 2) C tC_10 k17 i18 ⟨by decide, Or.inl W_2_215⟩ dX10_byteAt_23 (.ref a19) (rf_s h20) ?_
        refine zx_iload_n C dX10_byteAt_26 0 rfl ?_
        obtain ⟨k21, i22, hm⟩ := ckO_e hm
        obtain ⟨v23, ρ24, h25, hm⟩ := cll_e hm
        refine zx_callV (σ := ρ13) C [.int (v12)] tC_8 k21 i22 Y_X8_size W_5_155 W_4_133 W_4_134 (c_X8_size h25) (by decide) (by decide) rfl (Nat.le_of_ble_eq_true rfl) dX10_byteAt_27 rfl ?_
        refine zx_icmp_lt C 36 dX10_byteAt_30 (by decide) (fun c26 => ?_) (fun c26 => ?_)
        · replace hm := ip_e hm c26
          refine zx_aload_n C dX10_byteAt_36 1 rfl ?_
          obtain ⟨k27, i28, hm⟩ := ckO_e hm
          obtain ⟨a29, h30, hm⟩ := osm_e hm
          refine zx_get (j := 2) C tC_10 k27 i28 ⟨by decide, Or.inl W_2_215⟩ dX10_byteAt_37 (.ref a29) (rf_s h30) ?_
          refine zx_iload_n C dX10_byteAt_40 0 rfl ?_
          refine zx_iload_n C dX10_byteAt_41 3 rfl ?_
          obtain ⟨k31, i32, hm⟩ := ckO_e hm
          obtain ⟨v33, ρ34, h35, hm⟩ := cll_e hm
          refine zx_callV (σ := ρ24) C [.int (v12), .int (p1)] tC_8 k31 i32 Y_X8_octetAt W_5_189 W_5_190 W_5_191 (c_X8_octetAt h35) (by decide) (by decide) rfl (Nat.le_of_ble_eq_true rfl) dX10_byteAt_42 rfl ?_
          obtain ⟨rfl, rfl⟩ := ret_e hm
          exact zx_iret C rfl rfl rfl dX10_byteAt_45
        · replace hm := in_e hm c26
          exact zx_lv [] [] rfl (j_X10_byteAt_33 C htab hin    hm)
  · cases hm
    exact zx_outV (σ := σ) C htab [] tC_0 k5 i6 Y_X0_demandPower W_5_130 W_3_113 W_3_114 (c_X0_demandPower h9) rfl (by decide) (by decide) rfl (Nat.le_of_ble_eq_true rfl) dX10_byteAt_4 rfl
