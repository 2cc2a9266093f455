abbrev cX8_checksum : ByteArray := prog_10_method_37_code
def yX8_checksum : MethodName := ⟨"SyncTree$Tree", "checksum", "(III)J"⟩
theorem Y_X8_checksum : tY yX8_checksum cX8_checksum 9 (some .long) 3 := ⟨W_5_206, W_1_4, ⟨by decide +kernel, by decide +kernel⟩, by decide +kernel⟩
theorem dX8_checksum_0 : decode cX8_checksum 0 = .ok (.lconst 0, 1) := by decide +kernel
theorem dX8_checksum_1 : decode cX8_checksum 1 = .ok (.lstore 4, 2) := by decide +kernel
theorem dX8_checksum_3 : decode cX8_checksum 3 = .ok (.aload_n 0, 1) := by decide +kernel
theorem dX8_checksum_4 : decode cX8_checksum 4 = .ok (.iload_n 1, 1) := by decide +kernel
theorem dX8_checksum_5 : decode cX8_checksum 5 = .ok (.iload_n 2, 1) := by decide +kernel
theorem dX8_checksum_6 : decode cX8_checksum 6 = .ok (.sipush 256, 3) := by decide +kernel
theorem dX8_checksum_9 : decode cX8_checksum 9 = .ok (.idiv, 1) := by decide +kernel
theorem dX8_checksum_10 : decode cX8_checksum 10 = .ok (.invokevirtual 112, 3) := by decide +kernel
theorem dX8_checksum_13 : decode cX8_checksum 13 = .ok (.invokestatic 104, 3) := by decide +kernel
theorem dX8_checksum_16 : decode cX8_checksum 16 = .ok (.istore 6, 2) := by decide +kernel
theorem dX8_checksum_18 : decode cX8_checksum 18 = .ok (.iconst 0, 1) := by decide +kernel
theorem dX8_checksum_19 : decode cX8_checksum 19 = .ok (.istore 7, 2) := by decide +kernel
theorem dX8_checksum_21 : decode cX8_checksum 21 = .ok (.iload 7, 2) := by decide +kernel
theorem dX8_checksum_23 : decode cX8_checksum 23 = .ok (.iload_n 3, 1) := by decide +kernel
theorem dX8_checksum_24 : decode cX8_checksum 24 = .ok (.if_icmp .ge 67, 3) := by decide +kernel
theorem dX8_checksum_27 : decode cX8_checksum 27 = .ok (.iload_n 2, 1) := by decide +kernel
theorem dX8_checksum_28 : decode cX8_checksum 28 = .ok (.iload 7, 2) := by decide +kernel
theorem dX8_checksum_30 : decode cX8_checksum 30 = .ok (.iadd, 1) := by decide +kernel
theorem dX8_checksum_31 : decode cX8_checksum 31 = .ok (.sipush 256, 3) := by decide +kernel
theorem dX8_checksum_34 : decode cX8_checksum 34 = .ok (.irem, 1) := by decide +kernel
theorem dX8_checksum_35 : decode cX8_checksum 35 = .ok (.istore 8, 2) := by decide +kernel
theorem dX8_checksum_37 : decode cX8_checksum 37 = .ok (.iload 8, 2) := by decide +kernel
theorem dX8_checksum_39 : decode cX8_checksum 39 = .ok (.ifCond .ne 21, 3) := by decide +kernel
theorem dX8_checksum_42 : decode cX8_checksum 42 = .ok (.aload_n 0, 1) := by decide +kernel
theorem dX8_checksum_43 : decode cX8_checksum 43 = .ok (.iload_n 1, 1) := by decide +kernel
theorem dX8_checksum_44 : decode cX8_checksum 44 = .ok (.iload_n 2, 1) := by decide +kernel
theorem dX8_checksum_45 : decode cX8_checksum 45 = .ok (.iload 7, 2) := by decide +kernel
theorem dX8_checksum_47 : decode cX8_checksum 47 = .ok (.iadd, 1) := by decide +kernel
theorem dX8_checksum_48 : decode cX8_checksum 48 = .ok (.sipush 256, 3) := by decide +kernel
theorem dX8_checksum_51 : decode cX8_checksum 51 = .ok (.idiv, 1) := by decide +kernel
theorem dX8_checksum_52 : decode cX8_checksum 52 = .ok (.invokevirtual 112, 3) := by decide +kernel
theorem dX8_checksum_55 : decode cX8_checksum 55 = .ok (.invokestatic 104, 3) := by decide +kernel
theorem dX8_checksum_58 : decode cX8_checksum 58 = .ok (.istore 6, 2) := by decide +kernel
theorem dX8_checksum_60 : decode cX8_checksum 60 = .ok (.ldc2_w 151, 3) := by decide +kernel
theorem dX8_checksum_63 : decode cX8_checksum 63 = .ok (.lload 4, 2) := by decide +kernel
theorem dX8_checksum_65 : decode cX8_checksum 65 = .ok (.lmul, 1) := by decide +kernel
theorem dX8_checksum_66 : decode cX8_checksum 66 = .ok (.aload_n 0, 1) := by decide +kernel
theorem dX8_checksum_67 : decode cX8_checksum 67 = .ok (.getfield 15, 3) := by decide +kernel
theorem dX8_checksum_70 : decode cX8_checksum 70 = .ok (.iload 6, 2) := by decide +kernel
theorem dX8_checksum_72 : decode cX8_checksum 72 = .ok (.iload 8, 2) := by decide +kernel
theorem dX8_checksum_74 : decode cX8_checksum 74 = .ok (.invokevirtual 86, 3) := by decide +kernel
theorem dX8_checksum_77 : decode cX8_checksum 77 = .ok (.i2l, 1) := by decide +kernel
theorem dX8_checksum_78 : decode cX8_checksum 78 = .ok (.ladd, 1) := by decide +kernel
theorem dX8_checksum_79 : decode cX8_checksum 79 = .ok (.ldc2_w 153, 3) := by decide +kernel
theorem dX8_checksum_82 : decode cX8_checksum 82 = .ok (.land, 1) := by decide +kernel
theorem dX8_checksum_83 : decode cX8_checksum 83 = .ok (.lstore 4, 2) := by decide +kernel
theorem dX8_checksum_85 : decode cX8_checksum 85 = .ok (.iinc 7 1, 3) := by decide +kernel
theorem dX8_checksum_88 : decode cX8_checksum 88 = .ok (.goto (-67), 3) := by decide +kernel
theorem dX8_checksum_91 : decode cX8_checksum 91 = .ok (.lload 4, 2) := by decide +kernel
theorem dX8_checksum_93 : decode cX8_checksum 93 = .ok (.lreturn, 1) := by decide +kernel
set_option maxRecDepth 100000 in
set_option maxHeartbeats 1000000 in
theorem j_X8_checksum_60 {p : Program} {l : Launch} {e : Env} {s : State} {m : MethodId} {args : Array Value} {below : List Frame} {meth : Method} {c : Code} {D : va_G} {aC : Nat → ClassId} {b0 fu : Nat} {σ0 τ : tM} {v : Int64} {rc21 : Nat → Int32 → Int32 → Int32 → Int64 → Int32 → Int32 → tM → Option ((Int64) × tM)} (C : tCx p l s m args meth c yX8_checksum.cls cX8_checksum 9 (some .long) D aC b0 σ0) (htab : ∀ x ∈ c.exceptionTable.toList, False) (hin : meth.name = yX8_checksum.name) (hrc21 : ∀ (x0 : Nat) (x1 : Int32) (x2 : Int32) (x3 : Int32) (x4 : Int64) (x6 : Int32) (x7 : Int32) (ρ : tM), rc21 x0 x1 x2 x3 x4 x6 x7 ρ = some (v, τ) → tX p l e s m args below meth c 9 2 47 D aC b0 σ0 (.inl (some (.long v))) τ 21 [(0, .ref (x0)), (1, .int (x1)), (2, .int (x2)), (3, .int (x3)), (4, .long (x4)), (6, .int (x6)), (7, .int (x7))] [] ρ) {x0 : Nat} {x1 : Int32} {x2 : Int32} {x3 : Int32} {x4 : Int64} {x6 : Int32} {x7 : Int32} {x8 : Int32} {σ : tM} (hm : J_X8_checksum_60 b0 fu rc21 x0 x1 x2 x3 x4 x6 x7 x8 σ = some (v, τ)) : tX p l e s m args below meth c 9 2 47 D aC b0 σ0 (.inl (some (.long v))) τ 60 [(0, .ref (x0)), (1, .int (x1)), (2, .int (x2)), (3, .int (x3)), (4, .long (x4)), (6, .int (x6)), (7, .int (x7)), (8, .int (x8))] [] σ := by
  unfold J_X8_checksum_60 at hm
  refine zx_ldc2 (v := 31) C W_5_207 dX8_checksum_60 ?_
  refine zx_lload C dX8_checksum_63 4 rfl ?_
  refine zx_lmul C dX8_checksum_65 ?_
  refine zx_aload_n C dX8_checksum_66 0 rfl ?_
  obtain ⟨k12, i13, hm⟩ := ckO_e hm
  obtain ⟨a14, h15, hm⟩ := osm_e hm
  refine zx_get (j := 0) C tC_8 k12 i13 ⟨by decide, Or.inl W_1_163⟩ dX8_checksum_67 (.ref a14) (rf_s h15) ?_
  refine zx_iload C dX8_checksum_70 5 rfl ?_
  refine zx_iload C dX8_checksum_72 7 rfl ?_
  obtain ⟨k16, i17, hm⟩ := ckO_e hm
  obtain ⟨v18, ρ19, h20, hm⟩ := cll_e hm
  refine zx_callV (σ := σ) C [.int (x6), .int (x8)] tC_5 k16 i17 Y_X5_octet W_4_120 W_4_121 W_4_122 (c_X5_octet h20) (by decide) (by decide) rfl (Nat.le_of_ble_eq_true rfl) dX8_checksum_74 rfl ?_
  refine zx_i2l C dX8_checksum_77 ?_
  refine zx_ladd C dX8_checksum_78 ?_
  refine zx_ldc2 (v := 4294967295) C W_5_208 dX8_checksum_79 ?_
  refine zx_land C dX8_checksum_82 ?_
  refine zx_topl (fun y21 hy21 => ?_)
  replace hm := ltb_e hm hy21
  refine zx_lstore C [(4, .long (y21)), (0, .ref (x0)), (1, .int (x1)), (2, .int (x2)), (3, .int (x3)), (6, .int (x6)), (7, .int (x7)), (8, .int (x8))] dX8_checksum_83 (by decide) rfl ?_
  obtain ⟨y22, hy22⟩ : ∃ z : Int32, z = (x7) + Int32.ofInt 1 := ⟨_, rfl⟩
  replace hm := ltb_e hm hy22
  refine zx_iinc C [(7, .int (y22)), (4, .long (y21)), (0, .ref (x0)), (1, .int (x1)), (2, .int (x2)), (3, .int (x3)), (6, .int (x6)), (8, .int (x8))] dX8_checksum_85 6 rfl hy22.symm (by decide) rfl ?_
  refine zx_goto C 21 dX8_checksum_88 (by decide) ?_
  exact zx_lv [2, 3, 4, 5, 1, 6, 0] [(0, .ref (x0)), (1, .int (x1)), (2, .int (x2)), (3, .int (x3)), (4, .long (y21)), (6, .int (x6)), (7, .int (y22))] rfl (hrc21 _ _ _ _ _ _ _ _ hm)
set_option maxRecDepth 100000 in
set_option maxHeartbeats 1000000 in
theorem l_X8_checksum_21 {p : Program} {l : Launch} {e : Env} {s : State} {m : MethodId} {args : Array Value} {below : List Frame} {meth : Method} {c : Code} {D : va_G} {aC : Nat → ClassId} {b0 fu : Nat} {σ0 τ : tM} {v : Int64}  (C : tCx p l s m args meth c yX8_checksum.cls cX8_checksum 9 (some .long) D aC b0 σ0) (htab : ∀ x ∈ c.exceptionTable.toList, False) (hin : meth.name = yX8_checksum.name)  : ∀ (n : Nat) (x0 : Nat) (x1 : Int32) (x2 : Int32) (x3 : Int32) (x4 : Int64) (x6 : Int32) (x7 : Int32) (σ : tM), L_X8_checksum_21 b0 fu  n x0 x1 x2 x3 x4 x6 x7 σ = some (v, τ) → tX p l e s m args below meth c 9 2 47 D aC b0 σ0 (.inl (some (.long v))) τ 21 [(0, .ref (x0)), (1, .int (x1)), (2, .int (x2)), (3, .int (x3)), (4, .long (x4)), (6, .int (x6)), (7, .int (x7))] [] σ := by
  intro n
  induction n with
  | zero => intro x0 x1 x2 x3 x4 x6 x7 σ hm; unfold L_X8_checksum_21 at hm; cases hm
  | succ n ih =>
    intro x0 x1 x2 x3 x4 x6 x7 σ hm
    unfold L_X8_checksum_21 at hm
    obtain ⟨rc21, hrc⟩ : ∃ z, z = L_X8_checksum_21 b0 fu  n := ⟨_, rfl⟩
    replace hm := ltb_e hm hrc
    rw [← hrc] at ih
    have hrc21 := ih
    clear ih hrc
    refine zx_iload C dX8_checksum_21 6 rfl ?_
    refine zx_iload_n C dX8_checksum_23 3 rfl ?_
    refine zx_icmp_ge C 91 dX8_checksum_24 (by decide) (fun c9 => ?_) (fun c9 => ?_)
    · replace hm := ip_e hm c9
      refine zx_lload C dX8_checksum_91 4 rfl ?_
      obtain ⟨rfl, rfl⟩ := ret_e hm
      exact zx_lret C rfl rfl rfl dX8_checksum_93
    · replace hm := in_e hm c9
      refine zx_iload_n C dX8_checksum_27 2 rfl ?_
      refine zx_iload C dX8_checksum_28 6 rfl ?_
      refine zx_iadd C dX8_checksum_30 ?_
      refine zx_sipush (v := 256) C dX8_checksum_31 (by decide) ?_
      refine zx_irem C dX8_checksum_34 (by decide) ?_
      refine zx_topi (fun y10 hy10 => ?_)
      replace hm := ltb_e hm hy10
      refine zx_istore C [(8, .int (y10)), (0, .ref (x0)), (1, .int (x1)), (2, .int (x2)), (3, .int (x3)), (4, .long (x4)), (6, .int (x6)), (7, .int (x7))] dX8_checksum_35 (by decide) rfl ?_
      refine zx_iload C dX8_checksum_37 0 rfl ?_
      refine zx_if_ne C 60 dX8_checksum_39 (by decide) (fun c11 => ?_) (fun c11 => ?_)
      · replace hm := in_e hm c11
        exact zx_lv [1, 2, 3, 4, 5, 6, 7, 0] [(0, .ref (x0)), (1, .int (x1)), (2, .int (x2)), (3, .int (x3)), (4, .long (x4)), (6, .int (x6)), (7, .int (x7)), (8, .int (y10))] rfl (j_X8_checksum_60 C htab hin hrc21   hm)
      · replace hm := ip_e hm c11
        refine zx_aload_n C dX8_checksum_42 1 rfl ?_
        refine zx_iload_n C dX8_checksum_43 2 rfl ?_
        refine zx_iload_n C dX8_checksum_44 3 rfl ?_
        refine zx_iload C dX8_checksum_45 7 rfl ?_
        refine zx_iadd C dX8_checksum_47 ?_
        refine zx_sipush (v := 256) C dX8_checksum_48 (by decide) ?_
        refine zx_idiv C dX8_checksum_51 (by decide) ?_
        obtain ⟨k23, i24, hm⟩ := ckO_e hm
        obtain ⟨v25, ρ26, h27, hm⟩ := cll_e hm
        refine zx_callV (σ := σ) C [.int (x1), .int (((x2) + (x7)) / (256))] tC_8 k23 i24 Y_X8_pointer W_4_109 W_4_110 W_4_111 (c_X8_pointer h27) (by decide) (by decide) rfl (Nat.le_of_ble_eq_true rfl) dX8_checksum_52 rfl ?_
        obtain ⟨v28, ρ29, h30, hm⟩ := cll_e hm
        refine zx_callS (σ := ρ26) C [.long (v25)] Y_X8_cellOf W_4_117 W_4_118 (c_X8_cellOf h30) (by decide) (by decide) rfl (Nat.le_of_ble_eq_true rfl) dX8_checksum_55 rfl ?_
        refine zx_istore C [(6, .int (v28)), (8, .int (y10)), (0, .ref (x0)), (1, .int (x1)), (2, .int (x2)), (3, .int (x3)), (4, .long (x4)), (7, .int (x7))] dX8_checksum_58 (by decide) rfl ?_
        exact zx_lv [2, 3, 4, 5, 6, 0, 7, 1] [(0, .ref (x0)), (1, .int (x1)), (2, .int (x2)), (3, .int (x3)), (4, .long (x4)), (6, .int (v28)), (7, .int (x7)), (8, .int (y10))] rfl (j_X8_checksum_60 C htab hin hrc21   hm)
set_option maxRecDepth 100000 in
set_option maxHeartbeats 1000000 in
theorem c_X8_checksum {l : Launch} {D : va_G} {aC : Nat → ClassId} {b0 fu : Nat} {a0 : Nat} {p0 : Int32} {p1 : Int32} {p2 : Int32} {σ τ : tM} {v : Int64} (hm : m_X8_checksum b0 fu a0 p0 p1 p2 σ = some (v, τ)) : tMt l D aC b0 yX8_checksum (Cond.code yX8_checksum cX8_checksum 9 (some .long)) 2 47 [.ref (a0), .int (p0), .int (p1), .int (p2)] σ (.inl (some (.long v))) τ := by
  unfold m_X8_checksum at hm
  obtain ⟨hg, hm⟩ := grw_e hm
  refine tMt_of (n := 0) rfl (Nat.le_of_ble_eq_true rfl) hg ?_
  intro p e s m below meth c C htab hin
  refine zx_lv [0, 1, 2, 3] [(0, .ref (a0)), (1, .int (p0)), (2, .int (p1)), (3, .int (p2))] rfl ?_
  refine zx_lconst (v := 0) C dX8_checksum_0 (by decide) ?_
  refine zx_lstore C [(4, .long (0)), (0, .ref (a0)), (1, .int (p0)), (2, .int (p1)), (3, .int (p2))] dX8_checksum_1 (by decide) rfl ?_
  refine zx_aload_n C dX8_checksum_3 1 rfl ?_
  refine zx_iload_n C dX8_checksum_4 2 rfl ?_
  refine zx_iload_n C dX8_checksum_5 3 rfl ?_
  refine zx_sipush (v := 256) C dX8_checksum_6 (by decide) ?_
  refine zx_idiv C dX8_checksum_9 (by decide) ?_
  obtain ⟨k1, i2, hm⟩ := ckO_e hm
  obtain ⟨v3, ρ4, h5, hm⟩ := cll_e hm
  refine zx_callV (σ := σ) C [.int (p0), .int ((p1) / (256))] tC_8 k1 i2 Y_X8_pointer W_4_109 W_4_110 W_4_111 (c_X8_pointer h5) (by decide) (by decide) rfl (Nat.le_of_ble_eq_true rfl) dX8_checksum_10 rfl ?_
  obtain ⟨v6, ρ7, h8, hm⟩ := cll_e hm
  refine zx_callS (σ := ρ4) C [.long (v3)] Y_X8_cellOf W_4_117 W_4_118 (c_X8_cellOf h8) (by decide) (by decide) rfl (Nat.le_of_ble_eq_true rfl) dX8_checksum_13 rfl ?_
  refine zx_istore C [(6, .int (v6)), (4, .long (0)), (0, .ref (a0)), (1, .int (p0)), (2, .int (p1)), (3, .int (p2))] dX8_checksum_16 (by decide) rfl ?_
  refine zx_iconst (v := 0) C dX8_checksum_18 (by decide) ?_
  refine zx_istore C [(7, .int (0)), (6, .int (v6)), (4, .long (0)), (0, .ref (a0)), (1, .int (p0)), (2, .int (p1)), (3, .int (p2))] dX8_checksum_19 (by decide) rfl ?_
  exact zx_lv [3, 4, 5, 6, 2, 1, 0] [(0, .ref (a0)), (1, .int (p0)), (2, .int (p1)), (3, .int (p2)), (4, .long (0)), (6, .int (v6)), (7, .int (0))] rfl (l_X8_checksum_21 C htab hin  _ _ _ _ _ _ _ _ _ hm)
abbrev cX8_countBlocks : ByteArray := prog_10_method_39_code
def yX8_countBlocks : MethodName := ⟨"SyncTree$Tree", "countBlocks", "(I)I"⟩
theorem Y_X8_countBlocks : tY yX8_countBlocks cX8_countBlocks 5 (some .int) 1 := ⟨W_5_223, W_1_4, ⟨by decide +kernel, by decide +kernel⟩, by decide +kernel⟩
theorem dX8_countBlocks_0 : decode cX8_countBlocks 0 = .ok (.aload_n 0, 1) := by decide +kernel
theorem dX8_countBlocks_1 : decode cX8_countBlocks 1 = .ok (.iload_n 1, 1) := by decide +kernel
theorem dX8_countBlocks_2 : decode cX8_countBlocks 2 = .ok (.invokevirtual 40, 3) := by decide +kernel
theorem dX8_countBlocks_5 : decode cX8_countBlocks 5 = .ok (.iconst 3, 1) := by decide +kernel
theorem dX8_countBlocks_6 : decode cX8_countBlocks 6 = .ok (.if_icmp .ne 5, 3) := by decide +kernel
theorem dX8_countBlocks_9 : decode cX8_countBlocks 9 = .ok (.iconst 0, 1) := by decide +kernel
theorem dX8_countBlocks_10 : decode cX8_countBlocks 10 = .ok (.ireturn, 1) := by decide +kernel
theorem dX8_countBlocks_11 : decode cX8_countBlocks 11 = .ok (.iconst 0, 1) := by decide +kernel
theorem dX8_countBlocks_12 : decode cX8_countBlocks 12 = .ok (.istore_n 2, 1) := by decide +kernel
theorem dX8_countBlocks_13 : decode cX8_countBlocks 13 = .ok (.aload_n 0, 1) := by decide +kernel
theorem dX8_countBlocks_14 : decode cX8_countBlocks 14 = .ok (.iload_n 1, 1) := by decide +kernel
theorem dX8_countBlocks_15 : decode cX8_countBlocks 15 = .ok (.invokevirtual 53, 3) := by decide +kernel
theorem dX8_countBlocks_18 : decode cX8_countBlocks 18 = .ok (.iconst 1, 1) := by decide +kernel
theorem dX8_countBlocks_19 : decode cX8_countBlocks 19 = .ok (.isub, 1) := by decide +kernel
theorem dX8_countBlocks_20 : decode cX8_countBlocks 20 = .ok (.sipush 256, 3) := by decide +kernel
theorem dX8_countBlocks_23 : decode cX8_countBlocks 23 = .ok (.idiv, 1) := by decide +kernel
theorem dX8_countBlocks_24 : decode cX8_countBlocks 24 = .ok (.istore_n 3, 1) := by decide +kernel
theorem dX8_countBlocks_25 : decode cX8_countBlocks 25 = .ok (.iconst 0, 1) := by decide +kernel
theorem dX8_countBlocks_26 : decode cX8_countBlocks 26 = .ok (.istore 4, 2) := by decide +kernel
theorem dX8_countBlocks_28 : decode cX8_countBlocks 28 = .ok (.iload 4, 2) := by decide +kernel
theorem dX8_countBlocks_30 : decode cX8_countBlocks 30 = .ok (.iload_n 3, 1) := by decide +kernel
theorem dX8_countBlocks_31 : decode cX8_countBlocks 31 = .ok (.if_icmp .gt 29, 3) := by decide +kernel
theorem dX8_countBlocks_34 : decode cX8_countBlocks 34 = .ok (.iload_n 2, 1) := by decide +kernel
theorem dX8_countBlocks_35 : decode cX8_countBlocks 35 = .ok (.aload_n 0, 1) := by decide +kernel
theorem dX8_countBlocks_36 : decode cX8_countBlocks 36 = .ok (.iload_n 1, 1) := by decide +kernel
theorem dX8_countBlocks_37 : decode cX8_countBlocks 37 = .ok (.iload 4, 2) := by decide +kernel
theorem dX8_countBlocks_39 : decode cX8_countBlocks 39 = .ok (.invokevirtual 112, 3) := by decide +kernel
theorem dX8_countBlocks_42 : decode cX8_countBlocks 42 = .ok (.lconst 0, 1) := by decide +kernel
theorem dX8_countBlocks_43 : decode cX8_countBlocks 43 = .ok (.lcmp, 1) := by decide +kernel
theorem dX8_countBlocks_44 : decode cX8_countBlocks 44 = .ok (.ifCond .ne 7, 3) := by decide +kernel
theorem dX8_countBlocks_47 : decode cX8_countBlocks 47 = .ok (.iconst 0, 1) := by decide +kernel
theorem dX8_countBlocks_48 : decode cX8_countBlocks 48 = .ok (.goto 4, 3) := by decide +kernel
theorem dX8_countBlocks_51 : decode cX8_countBlocks 51 = .ok (.iconst 1, 1) := by decide +kernel
theorem dX8_countBlocks_52 : decode cX8_countBlocks 52 = .ok (.iadd, 1) := by decide +kernel
theorem dX8_countBlocks_53 : decode cX8_countBlocks 53 = .ok (.istore_n 2, 1) := by decide +kernel
theorem dX8_countBlocks_54 : decode cX8_countBlocks 54 = .ok (.iinc 4 1, 3) := by decide +kernel
theorem dX8_countBlocks_57 : decode cX8_countBlocks 57 = .ok (.goto (-29), 3) := by decide +kernel
theorem dX8_countBlocks_60 : decode cX8_countBlocks 60 = .ok (.iload_n 2, 1) := by decide +kernel
theorem dX8_countBlocks_61 : decode cX8_countBlocks 61 = .ok (.ireturn, 1) := by decide +kernel
set_option maxRecDepth 100000 in
set_option maxHeartbeats 1000000 in
theorem j_X8_countBlocks_52 {p : Program} {l : Launch} {e : Env} {s : State} {m : MethodId} {args : Array Value} {below : List Frame} {meth : Method} {c : Code} {D : va_G} {aC : Nat → ClassId} {b0 fu : Nat} {σ0 τ : tM} {v : Int32} {rc28 : Nat → Int32 → Int32 → Int32 → Int32 → tM → Option ((Int32) × tM)} (C : tCx p l s m args meth c yX8_countBlocks.cls cX8_countBlocks 5 (some .int) D aC b0 σ0) (htab : ∀ x ∈ c.exceptionTable.toList, False) (hin : meth.name = yX8_countBlocks.name) (hrc28 : ∀ (x0 : Nat) (x1 : Int32) (x2 : Int32) (x3 : Int32) (x4 : Int32) (ρ : tM), rc28 x0 x1 x2 x3 x4 ρ = some (v, τ) → tX p l e s m args below meth c 5 2 47 D aC b0 σ0 (.inl (some (.int v))) τ 28 [(0, .ref (x0)), (1, .int (x1)), (2, .int (x2)), (3, .int (x3)), (4, .int (x4))] [] ρ) {x0 : Nat} {x1 : Int32} {x3 : Int32} {x4 : Int32} {s0 : Int32} {s1 : Int32} {σ : tM} (hm : J_X8_countBlocks_52 b0 fu rc28 x0 x1 x3 x4 s0 s1 σ = some (v, τ)) : tX p l e s m args below meth c 5 2 47 D aC b0 σ0 (.inl (some (.int v))) τ 52 [(0, .ref (x0)), (1, .int (x1)), (3, .int (x3)), (4, .int (x4))] [.int (s1), .int (s0)] σ := by
  unfold J_X8_countBlocks_52 at hm
  refine zx_iadd C dX8_countBlocks_52 ?_
  refine zx_topi (fun y20 hy20 => ?_)
  replace hm := ltb_e hm hy20
  refine zx_istore_n C [(2, .int (y20)), (0, .ref (x0)), (1, .int (x1)), (3, .int (x3)), (4, .int (x4))] dX8_countBlocks_53 rfl (by decide) rfl ?_
  obtain ⟨y21, hy21⟩ : ∃ z : Int32, z = (x4) + Int32.ofInt 1 := ⟨_, rfl⟩
  replace hm := ltb_e hm hy21
  refine zx_iinc C [(4, .int (y21)), (2, .int (y20)), (0, .ref (x0)), (1, .int (x1)), (3, .int (x3))] dX8_countBlocks_54 4 rfl hy21.symm (by decide) rfl ?_
  refine zx_goto C 28 dX8_countBlocks_57 (by decide) ?_
  exact zx_lv [2, 3, 1, 4, 0] [(0, .ref (x0)), (1, .int (x1)), (2, .int (y20)), (3, .int (x3)), (4, .int (y21))] rfl (hrc28 _ _ _ _ _ _ hm)
set_option maxRecDepth 100000 in
set_option maxHeartbeats 1000000 in
theorem l_X8_countBlocks_28 {p : Program} {l : Launch} {e : Env} {s : State} {m : MethodId} {args : Array Value} {below : List Frame} {meth : Method} {c : Code} {D : va_G} {aC : Nat → ClassId} {b0 fu : Nat} {σ0 τ : tM} {v : Int32}  (C : tCx p l s m args meth c yX8_countBlocks.cls cX8_countBlocks 5 (some .int) D aC b0 σ0) (htab : ∀ x ∈ c.exceptionTable.toList, False) (hin : meth.name = yX8_countBlocks.name)  : ∀ (n : Nat) (x0 : Nat) (x1 : Int32) (x2 : Int32) (x3 : Int32) (x4 : Int32) (σ : tM), L_X8_countBlocks_28 b0 fu  n x0 x1 x2 x3 x4 σ = some (v, τ) → tX p l e s m args below meth c 5 2 47 D aC b0 σ0 (.inl (some (.int v))) τ 28 [(0, .ref (x0)), (1, .int (x1)), (2, .int (x2)), (3, .int (x3)), (4, .int (x4))] [] σ := by
  intro n
  induction n with
  | zero => intro x0 x1 x2 x3 x4 σ hm; unfold L_X8_countBlocks_28 at hm; cases hm
  | succ n ih =>
    intro x0 x1 x2 x3 x4 σ hm
    unfold L_X8_countBlocks_28 at hm
    obtain ⟨rc28, hrc⟩ : ∃ z, z = L_X8_countBlocks_28 b0 fu  n := ⟨_, rfl⟩
    replace hm := ltb_e hm hrc
    rw [← hrc] at ih
    have hrc28 := ih
    clear ih hrc
    refine zx_iload C dX8_countBlocks_28 4 rfl ?_
    refine zx_iload_n C dX8_countBlocks_30 3 rfl ?_
    refine zx_icmp_gt C 60 dX8_countBlocks_31 (by decide) (fun c13 => ?_) (fun c13 => ?_)
    · replace hm := ip_e hm c13
      refine zx_iload_n C dX8_countBlocks_60 2 rfl ?_
      obtain ⟨rfl, rfl⟩ := ret_e hm
      exact zx_iret C rfl rfl rfl dX8_countBlocks_61
    · replace hm := in_e hm c13
      refine zx_iload_n C dX8_countBlocks_34 2 rfl ?_
      refine zx_aload_n C dX8_countBlocks_35 0 rfl ?_
      refine zx_iload_n C dX8_countBlocks_36 1 rfl ?_
      refine zx_iload C dX8_countBlocks_37 4 rfl ?_
      obtain ⟨k14, i15, hm⟩ := ckO_e hm
      obtain ⟨v16, ρ17, h18, hm⟩ := cll_e hm
      refine zx_callV (σ := σ) C [.int (x1), .int (x4)] tC_8 k14 i15 Y_X8_pointer W_4_109 W_4_110 W_4_111 (c_X8_pointer h18) (by decide) (by decide) rfl (Nat.le_of_ble_eq_true rfl) dX8_countBlocks_39 rfl ?_
      refine zx_lconst (v := 0) C dX8_countBlocks_42 (by decide) ?_
      refine zx_lcmp C dX8_countBlocks_43 ?_
      refine zx_if_ne C 51 dX8_countBlocks_44 (by decide) (fun c19 => ?_) (fun c19 => ?_)
      · replace hm := in_e hm c19
        refine zx_iconst (v := 1) C dX8_countBlocks_51 (by decide) ?_
        exact zx_lv [0, 1, 3, 4] [(0, .ref (x0)), (1, .int (x1)), (3, .int (x3)), (4, .int (x4))] rfl (j_X8_countBlocks_52 C htab hin hrc28   hm)
      · replace hm := ip_e hm c19
        refine zx_iconst (v := 0) C dX8_countBlocks_47 (by decide) ?_
        refine zx_goto C 52 dX8_countBlocks_48 (by decide) ?_
        exact zx_lv [0, 1, 3, 4] [(0, .ref (x0)), (1, .int (x1)), (3, .int (x3)), (4, .int (x4))] rfl (j_X8_countBlocks_52 C htab hin hrc28   hm)
set_option maxRecDepth 100000 in
set_option maxHeartbeats 1000000 in
theorem c_X8_countBlocks {l : Launch} {D : va_G} {aC : Nat → ClassId} {b0 fu : Nat} {a0 : Nat} {p0 : Int32} {σ τ : tM} {v : Int32} (hm : m_X8_countBlocks b0 fu a0 p0 σ = some (v, τ)) : tMt l D aC b0 yX8_countBlocks (Cond.code yX8_countBlocks cX8_countBlocks 5 (some .int)) 2 47 [.ref (a0), .int (p0)] σ (.inl (some (.int v))) τ := by
  unfold m_X8_countBlocks at hm
  obtain ⟨hg, hm⟩ := grw_e hm
  refine tMt_of (n := 0) rfl (Nat.le_of_ble_eq_true rfl) hg ?_
  intro p e s m below meth c C htab hin
  refine zx_lv [0, 1] [(0, .ref (a0)), (1, .int (p0))] rfl ?_
  refine zx_aload_n C dX8_countBlocks_0 0 rfl ?_
  refine zx_iload_n C dX8_countBlocks_1 1 rfl ?_
  obtain ⟨k1, i2, hm⟩ := ckO_e hm
  obtain ⟨v3, ρ4, h5, hm⟩ := cll_e hm
  refine zx_callV (σ := σ) C [.int (p0)] tC_8 k1 i2 Y_X8_kind W_3_79 W_3_80 W_3_81 (c_X8_kind h5) (by decide) (by decide) rfl (Nat.le_of_ble_eq_true rfl) dX8_countBlocks_2 rfl ?_
  refine zx_iconst (v := 3) C dX8_countBlocks_5 (by decide) ?_
  refine zx_icmp_ne C 11 dX8_countBlocks_6 (by decide) (fun c6 => ?_) (fun c6 => ?_)
  · replace hm := in_e hm c6
    refine zx_iconst (v := 0) C dX8_countBlocks_11 (by decide) ?_
    refine zx_istore_n C [(2, .int (0)), (0, .ref (a0)), (1, .int (p0))] dX8_countBlocks_12 rfl (by decide) rfl ?_
    refine zx_aload_n C dX8_countBlocks_13 1 rfl ?_
    refine zx_iload_n C dX8_countBlocks_14 2 rfl ?_
    obtain ⟨k7, i8, hm⟩ := ckO_e hm
    obtain ⟨v9, ρ10, h11, hm⟩ := cll_e hm
    refine zx_callV (σ := ρ4) C [.int (p0)] tC_8 k7 i8 Y_X8_size W_4_224 W_4_133 W_4_134 (c_X8_size h11) (by decide) (by decide) rfl (Nat.le_of_ble_eq_true rfl) dX8_countBlocks_15 rfl ?_
    refine zx_iconst (v := 1) C dX8_countBlocks_18 (by decide) ?_
    refine zx_isub C dX8_countBlocks_19 ?_
    refine zx_sipush (v := 256) C dX8_countBlocks_20 (by decide) ?_
    refine zx_idiv C dX8_countBlocks_23 (by decide) ?_
    refine zx_topi (fun y12 hy12 => ?_)
    replace hm := ltb_e hm hy12
    refine zx_istore_n C [(3, .int (y12)), (2, .int (0)), (0, .ref (a0)), (1, .int (p0))] dX8_countBlocks_24 rfl (by decide) rfl ?_
    refine zx_iconst (v := 0) C dX8_countBlocks_25 (by decide) ?_
    refine zx_istore C [(4, .int (0)), (3, .int (y12)), (2, .int (0)), (0, .ref (a0)), (1, .int (p0))] dX8_countBlocks_26 (by decide) rfl ?_
    exact zx_lv [3, 4, 2, 1, 0] [(0, .ref (a0)), (1, .int (p0)), (2, .int (0)), (3, .int (y12)), (4, .int (0))] rfl (l_X8_countBlocks_28 C htab hin  _ _ _ _ _ _ _ hm)
  · replace hm := ip_e hm c6
    refine zx_iconst (v := 0) C dX8_countBlocks_9 (by decide) ?_
    obtain ⟨rfl, rfl⟩ := ret_e hm
    exact zx_iret C rfl rfl rfl dX8_countBlocks_10
abbrev cX8_countPointerBlocks : ByteArray := prog_10_method_40_code
def yX8_countPointerBlocks : MethodName := ⟨"SyncTree$Tree", "countPointerBlocks", "(I)I"⟩
theorem Y_X8_countPointerBlocks : tY yX8_countPointerBlocks cX8_countPointerBlocks 6 (some .int) 1 := ⟨W_5_227, W_1_4, ⟨by decide +kernel, by decide +kernel⟩, by decide +kernel⟩
theorem dX8_countPointerBlocks_0 : decode cX8_countPointerBlocks 0 = .ok (.aload_n 0, 1) := by decide +kernel
theorem dX8_countPointerBlocks_1 : decode cX8_countPointerBlocks 1 = .ok (.iload_n 1, 1) := by decide +kernel
theorem dX8_countPointerBlocks_2 : decode cX8_countPointerBlocks 2 = .ok (.invokevirtual 40, 3) := by decide +kernel
theorem dX8_countPointerBlocks_5 : decode cX8_countPointerBlocks 5 = .ok (.iconst 3, 1) := by decide +kernel
theorem dX8_countPointerBlocks_6 : decode cX8_countPointerBlocks 6 = .ok (.if_icmp .ne 5, 3) := by decide +kernel
theorem dX8_countPointerBlocks_9 : decode cX8_countPointerBlocks 9 = .ok (.iconst 0, 1) := by decide +kernel
theorem dX8_countPointerBlocks_10 : decode cX8_countPointerBlocks 10 = .ok (.ireturn, 1) := by decide +kernel
theorem dX8_countPointerBlocks_11 : decode cX8_countPointerBlocks 11 = .ok (.aload_n 0, 1) := by decide +kernel
theorem dX8_countPointerBlocks_12 : decode cX8_countPointerBlocks 12 = .ok (.iload_n 1, 1) := by decide +kernel
theorem dX8_countPointerBlocks_13 : decode cX8_countPointerBlocks 13 = .ok (.bipush 10, 2) := by decide +kernel
theorem dX8_countPointerBlocks_15 : decode cX8_countPointerBlocks 15 = .ok (.invokevirtual 30, 3) := by decide +kernel
theorem dX8_countPointerBlocks_18 : decode cX8_countPointerBlocks 18 = .ok (.lstore_n 2, 1) := by decide +kernel
theorem dX8_countPointerBlocks_19 : decode cX8_countPointerBlocks 19 = .ok (.aload_n 0, 1) := by decide +kernel
theorem dX8_countPointerBlocks_20 : decode cX8_countPointerBlocks 20 = .ok (.iload_n 1, 1) := by decide +kernel
theorem dX8_countPointerBlocks_21 : decode cX8_countPointerBlocks 21 = .ok (.bipush 9, 2) := by decide +kernel
theorem dX8_countPointerBlocks_23 : decode cX8_countPointerBlocks 23 = .ok (.invokevirtual 30, 3) := by decide +kernel
theorem dX8_countPointerBlocks_26 : decode cX8_countPointerBlocks 26 = .ok (.lconst 0, 1) := by decide +kernel
theorem dX8_countPointerBlocks_27 : decode cX8_countPointerBlocks 27 = .ok (.lcmp, 1) := by decide +kernel
theorem dX8_countPointerBlocks_28 : decode cX8_countPointerBlocks 28 = .ok (.ifCond .ne 7, 3) := by decide +kernel
theorem dX8_countPointerBlocks_31 : decode cX8_countPointerBlocks 31 = .ok (.iconst 0, 1) := by decide +kernel
theorem dX8_countPointerBlocks_32 : decode cX8_countPointerBlocks 32 = .ok (.goto 4, 3) := by decide +kernel
theorem dX8_countPointerBlocks_35 : decode cX8_countPointerBlocks 35 = .ok (.iconst 1, 1) := by decide +kernel
theorem dX8_countPointerBlocks_36 : decode cX8_countPointerBlocks 36 = .ok (.istore 4, 2) := by decide +kernel
theorem dX8_countPointerBlocks_38 : decode cX8_countPointerBlocks 38 = .ok (.iload 4, 2) := by decide +kernel
theorem dX8_countPointerBlocks_40 : decode cX8_countPointerBlocks 40 = .ok (.lload_n 2, 1) := by decide +kernel
theorem dX8_countPointerBlocks_41 : decode cX8_countPointerBlocks 41 = .ok (.lconst 0, 1) := by decide +kernel
theorem dX8_countPointerBlocks_42 : decode cX8_countPointerBlocks 42 = .ok (.lcmp, 1) := by decide +kernel
theorem dX8_countPointerBlocks_43 : decode cX8_countPointerBlocks 43 = .ok (.ifCond .ne 7, 3) := by decide +kernel
theorem dX8_countPointerBlocks_46 : decode cX8_countPointerBlocks 46 = .ok (.iconst 0, 1) := by decide +kernel
theorem dX8_countPointerBlocks_47 : decode cX8_countPointerBlocks 47 = .ok (.goto 4, 3) := by decide +kernel
theorem dX8_countPointerBlocks_50 : decode cX8_countPointerBlocks 50 = .ok (.iconst 1, 1) := by decide +kernel
theorem dX8_countPointerBlocks_51 : decode cX8_countPointerBlocks 51 = .ok (.iadd, 1) := by decide +kernel
theorem dX8_countPointerBlocks_52 : decode cX8_countPointerBlocks 52 = .ok (.istore 4, 2) := by decide +kernel
theorem dX8_countPointerBlocks_54 : decode cX8_countPointerBlocks 54 = .ok (.iconst 0, 1) := by decide +kernel
theorem dX8_countPointerBlocks_55 : decode cX8_countPointerBlocks 55 = .ok (.istore 5, 2) := by decide +kernel
theorem dX8_countPointerBlocks_57 : decode cX8_countPointerBlocks 57 = .ok (.iload 5, 2) := by decide +kernel
theorem dX8_countPointerBlocks_59 : decode cX8_countPointerBlocks 59 = .ok (.bipush 32, 2) := by decide +kernel
theorem dX8_countPointerBlocks_61 : decode cX8_countPointerBlocks 61 = .ok (.if_icmp .ge 37, 3) := by decide +kernel
theorem dX8_countPointerBlocks_64 : decode cX8_countPointerBlocks 64 = .ok (.iload 4, 2) := by decide +kernel
theorem dX8_countPointerBlocks_66 : decode cX8_countPointerBlocks 66 = .ok (.aload_n 0, 1) := by decide +kernel
theorem dX8_countPointerBlocks_67 : decode cX8_countPointerBlocks 67 = .ok (.getfield 15, 3) := by decide +kernel
theorem dX8_countPointerBlocks_70 : decode cX8_countPointerBlocks 70 = .ok (.lload_n 2, 1) := by decide +kernel
theorem dX8_countPointerBlocks_71 : decode cX8_countPointerBlocks 71 = .ok (.invokestatic 104, 3) := by decide +kernel
theorem dX8_countPointerBlocks_74 : decode cX8_countPointerBlocks 74 = .ok (.iload 5, 2) := by decide +kernel
theorem dX8_countPointerBlocks_76 : decode cX8_countPointerBlocks 76 = .ok (.invokevirtual 164, 3) := by decide +kernel
theorem dX8_countPointerBlocks_79 : decode cX8_countPointerBlocks 79 = .ok (.lconst 0, 1) := by decide +kernel
theorem dX8_countPointerBlocks_80 : decode cX8_countPointerBlocks 80 = .ok (.lcmp, 1) := by decide +kernel
theorem dX8_countPointerBlocks_81 : decode cX8_countPointerBlocks 81 = .ok (.ifCond .ne 7, 3) := by decide +kernel
theorem dX8_countPointerBlocks_84 : decode cX8_countPointerBlocks 84 = .ok (.iconst 0, 1) := by decide +kernel
theorem dX8_countPointerBlocks_85 : decode cX8_countPointerBlocks 85 = .ok (.goto 4, 3) := by decide +kernel
theorem dX8_countPointerBlocks_88 : decode cX8_countPointerBlocks 88 = .ok (.iconst 1, 1) := by decide +kernel
theorem dX8_countPointerBlocks_89 : decode cX8_countPointerBlocks 89 = .ok (.iadd, 1) := by decide +kernel
theorem dX8_countPointerBlocks_90 : decode cX8_countPointerBlocks 90 = .ok (.istore 4, 2) := by decide +kernel
theorem dX8_countPointerBlocks_92 : decode cX8_countPointerBlocks 92 = .ok (.iinc 5 1, 3) := by decide +kernel
theorem dX8_countPointerBlocks_95 : decode cX8_countPointerBlocks 95 = .ok (.goto (-38), 3) := by decide +kernel
theorem dX8_countPointerBlocks_98 : decode cX8_countPointerBlocks 98 = .ok (.iload 4, 2) := by decide +kernel
theorem dX8_countPointerBlocks_100 : decode cX8_countPointerBlocks 100 = .ok (.ireturn, 1) := by decide +kernel
set_option maxRecDepth 100000 in
set_option maxHeartbeats 1000000 in
theorem j_X8_countPointerBlocks_89 {p : Program} {l : Launch} {e : Env} {s : State} {m : MethodId} {args : Array Value} {below : List Frame} {meth : Method} {c : Code} {D : va_G} {aC : Nat → ClassId} {b0 fu : Nat} {σ0 τ : tM} {v : Int32} {rc57 : Nat → Int64 → Int32 → Int32 → tM → Option ((Int32) × tM)} (C : tCx p l s m args meth c yX8_countPointerBlocks.cls cX8_countPointerBlocks 6 (some .int) D aC b0 σ0) (htab : ∀ x ∈ c.exceptionTable.toList, False) (hin : meth.name = yX8_countPointerBlocks.name) (hrc57 : ∀ (x0 : Nat) (x2 : Int64) (x4 : Int32) (x5 : Int32) (ρ : tM), rc57 x0 x2 x4 x5 ρ = some (v, τ) → tX p l e s m args below meth c 6 2 43 D aC b0 σ0 (.inl (some (.int v))) τ 57 [(0, .ref (x0)), (2, .long (x2)), (4, .int (x4)), (5, .int (x5))] [] ρ) {x0 : Nat} {x2 : Int64} {x5 : Int32} {s0 : Int32} {s1 : Int32} {σ : tM} (hm : J_X8_countPointerBlocks_89 b0 fu rc57 x0 x2 x5 s0 s1 σ = some (v, τ)) : tX p l e s m args below meth c 6 2 43 D aC b0 σ0 (.inl (some (.int v))) τ 89 [(0, .ref (x0)), (2, .long (x2)), (5, .int (x5))] [.int (s1), .int (s0)] σ := by
  unfold J_X8_countPointerBlocks_89 at hm
  refine zx_iadd C dX8_countPointerBlocks_89 ?_
  refine zx_topi (fun y34 hy34 => ?_)
  replace hm := ltb_e hm hy34
  refine zx_istore C [(4, .int (y34)), (0, .ref (x0)), (2, .long (x2)), (5, .int (x5))] dX8_countPointerBlocks_90 (by decide) rfl ?_
  obtain ⟨y35, hy35⟩ : ∃ z : Int32, z = (x5) + Int32.ofInt 1 := ⟨_, rfl⟩
  replace hm := ltb_e hm hy35
  refine zx_iinc C [(5, .int (y35)), (4, .int (y34)), (0, .ref (x0)), (2, .long (x2))] dX8_countPointerBlocks_92 3 rfl hy35.symm (by decide) rfl ?_
  refine zx_goto C 57 dX8_countPointerBlocks_95 (by decide) ?_
  exact zx_lv [2, 3, 1, 0] [(0, .ref (x0)), (2, .long (x2)), (4, .int (y34)), (5, .int (y35))] rfl (hrc57 _ _ _ _ _ hm)
set_option maxRecDepth 100000 in
set_option maxHeartbeats 1000000 in
theorem l_X8_countPointerBlocks_57 {p : Program} {l : Launch} {e : Env} {s : State} {m : MethodId} {args : Array Value} {below : List Frame} {meth : Method} {c : Code} {D : va_G} {aC : Nat → ClassId} {b0 fu : Nat} {σ0 τ : tM} {v : Int32}  (C : tCx p l s m args meth c yX8_countPointerBlocks.cls cX8_countPointerBlocks 6 (some .int) D aC b0 σ0) (htab : ∀ x ∈ c.exceptionTable.toList, False) (hin : meth.name = yX8_countPointerBlocks.name)  : ∀ (n : Nat) (x0 : Nat) (x2 : Int64) (x4 : Int32) (x5 : Int32) (σ : tM), L_X8_countPointerBlocks_57 b0 fu  n x0 x2 x4 x5 σ = some (v, τ) → tX p l e s m args below meth c 6 2 43 D aC b0 σ0 (.inl (some (.int v))) τ 57 [(0, .ref (x0)), (2, .long (x2)), (4, .int (x4)), (5, .int (x5))] [] σ := by
  intro n
  induction n with
  | zero => intro x0 x2 x4 x5 σ hm; unfold L_X8_countPointerBlocks_57 at hm; cases hm
  | succ n ih =>
    intro x0 x2 x4 x5 σ hm
    unfold L_X8_countPointerBlocks_57 at hm
    obtain ⟨rc57, hrc⟩ : ∃ z, z = L_X8_countPointerBlocks_57 b0 fu  n := ⟨_, rfl⟩
    replace hm := ltb_e hm hrc
    rw [← hrc] at ih
    have hrc57 := ih
    clear ih hrc
    refine zx_iload C dX8_countPointerBlocks_57 3 rfl ?_
    refine zx_bipush (v := 32) C dX8_countPointerBlocks_59 (by decide) ?_
    refine zx_icmp_ge C 98 dX8_countPointerBlocks_61 (by decide) (fun c20 => ?_) (fun c20 => ?_)
    · replace hm := ip_e hm c20
      refine zx_iload C dX8_countPointerBlocks_98 2 rfl ?_
      obtain ⟨rfl, rfl⟩ := ret_e hm
      exact zx_iret C rfl rfl rfl dX8_countPointerBlocks_100
    · replace hm := in_e hm c20
      refine zx_iload C dX8_countPointerBlocks_64 2 rfl ?_
      refine zx_aload_n C dX8_countPointerBlocks_66 0 rfl ?_
      obtain ⟨k21, i22, hm⟩ := ckO_e hm
      obtain ⟨a23, h24, hm⟩ := osm_e hm
      refine zx_get (j := 0) C tC_8 k21 i22 ⟨by decide, Or.inl W_1_163⟩ dX8_countPointerBlocks_67 (.ref a23) (rf_s h24) ?_
      refine zx_lload_n C dX8_countPointerBlocks_70 1 rfl ?_
      obtain ⟨v25, ρ26, h27, hm⟩ := cll_e hm
      refine zx_callS (σ := σ) C [.long (x2)] Y_X8_cellOf W_4_117 W_4_118 (c_X8_cellOf h27) (by decide) (by decide) rfl (Nat.le_of_ble_eq_true rfl) dX8_countPointerBlocks_71 rfl ?_
      refine zx_iload C dX8_countPointerBlocks_74 3 rfl ?_
      obtain ⟨k28, i29, hm⟩ := ckO_e hm
      obtain ⟨v30, ρ31, h32, hm⟩ := cll_e hm
      refine zx_callV (σ := ρ26) C [.int (v25), .int (x5)] tC_5 k28 i29 Y_X5_word W_5_228 W_2_141 W_2_142 (c_X5_word h32) (by decide) (by decide) rfl (Nat.le_of_ble_eq_true rfl) dX8_countPointerBlocks_76 rfl ?_
      refine zx_lconst (v := 0) C dX8_countPointerBlocks_79 (by decide) ?_
      refine zx_lcmp C dX8_countPointerBlocks_80 ?_
      refine zx_if_ne C 88 dX8_countPointerBlocks_81 (by decide) (fun c33 => ?_) (fun c33 => ?_)
      · replace hm := in_e hm c33
        refine zx_iconst (v := 1) C dX8_countPointerBlocks_88 (by decide) ?_
        exact zx_lv [0, 1, 3] [(0, .ref (x0)), (2, .long (x2)), (5, .int (x5))] rfl (j_X8_countPointerBlocks_89 C htab hin hrc57   hm)
      · replace hm := ip_e hm c33
        refine zx_iconst (v := 0) C dX8_countPointerBlocks_84 (by decide) ?_
        refine zx_goto C 89 dX8_countPointerBlocks_85 (by decide) ?_
        exact zx_lv [0, 1, 3] [(0, .ref (x0)), (2, .long (x2)), (5, .int (x5))] rfl (j_X8_countPointerBlocks_89 C htab hin hrc57   hm)
set_option maxRecDepth 100000 in
set_option maxHeartbeats 1000000 in
theorem j_X8_countPointerBlocks_51 {p : Program} {l : Launch} {e : Env} {s : State} {m : MethodId} {args : Array Value} {below : List Frame} {meth : Method} {c : Code} {D : va_G} {aC : Nat → ClassId} {b0 fu : Nat} {σ0 τ : tM} {v : Int32}  (C : tCx p l s m args meth c yX8_countPointerBlocks.cls cX8_countPointerBlocks 6 (some .int) D aC b0 σ0) (htab : ∀ x ∈ c.exceptionTable.toList, False) (hin : meth.name = yX8_countPointerBlocks.name)  {x0 : Nat} {x2 : Int64} {s0 : Int32} {s1 : Int32} {σ : tM} (hm : J_X8_countPointerBlocks_51 b0 fu  x0 x2 s0 s1 σ = some (v, τ)) : tX p l e s m args below meth c 6 2 43 D aC b0 σ0 (.inl (some (.int v))) τ 51 [(0, .ref (x0)), (2, .long (x2))] [.int (s1), .int (s0)] σ := by
  unfold J_X8_countPointerBlocks_51 at hm
  refine zx_iadd C dX8_countPointerBlocks_51 ?_
  refine zx_topi (fun y19 hy19 => ?_)
  replace hm := ltb_e hm hy19
  refine zx_istore C [(4, .int (y19)), (0, .ref (x0)), (2, .long (x2))] dX8_countPointerBlocks_52 (by decide) rfl ?_
  refine zx_iconst (v := 0) C dX8_countPointerBlocks_54 (by decide) ?_
  refine zx_istore C [(5, .int (0)), (4, .int (y19)), (0, .ref (x0)), (2, .long (x2))] dX8_countPointerBlocks_55 (by decide) rfl ?_
  exact zx_lv [2, 3, 1, 0] [(0, .ref (x0)), (2, .long (x2)), (4, .int (y19)), (5, .int (0))] rfl (l_X8_countPointerBlocks_57 C htab hin  _ _ _ _ _ _ hm)
set_option maxRecDepth 100000 in
set_option maxHeartbeats 1000000 in
theorem j_X8_countPointerBlocks_36 {p : Program} {l : Launch} {e : Env} {s : State} {m : MethodId} {args : Array Value} {below : List Frame} {meth : Method} {c : Code} {D : va_G} {aC : Nat → ClassId} {b0 fu : Nat} {σ0 τ : tM} {v : Int32}  (C : tCx p l s m args meth c yX8_countPointerBlocks.cls cX8_countPointerBlocks 6 (some .int) D aC b0 σ0) (htab : ∀ x ∈ c.exceptionTable.toList, False) (hin : meth.name = yX8_countPointerBlocks.name)  {x0 : Nat} {x2 : Int64} {s0 : Int32} {σ : tM} (hm : J_X8_countPointerBlocks_36 b0 fu  x0 x2 s0 σ = some (v, τ)) : tX p l e s m args below meth c 6 2 43 D aC b0 σ0 (.inl (some (.int v))) τ 36 [(0, .ref (x0)), (2, .long (x2))] [.int (s0)] σ := by
  unfold J_X8_countPointerBlocks_36 at hm
  refine zx_istore C [(4, .int (s0)), (0, .ref (x0)), (2, .long (x2))] dX8_countPointerBlocks_36 (by decide) rfl ?_
  refine zx_iload C dX8_countPointerBlocks_38 0 rfl ?_
  refine zx_lload_n C dX8_countPointerBlocks_40 2 rfl ?_
  refine zx_lconst (v := 0) C dX8_countPointerBlocks_41 (by decide) ?_
  refine zx_lcmp C dX8_countPointerBlocks_42 ?_
  refine zx_if_ne C 50 dX8_countPointerBlocks_43 (by decide) (fun c18 => ?_) (fun c18 => ?_)
  · replace hm := in_e hm c18
    refine zx_iconst (v := 1) C dX8_countPointerBlocks_50 (by decide) ?_
    exact zx_lv [1, 2] [(0, .ref (x0)), (2, .long (x2))] rfl (j_X8_countPointerBlocks_51 C htab hin    hm)
  · replace hm := ip_e hm c18
    refine zx_iconst (v := 0) C dX8_countPointerBlocks_46 (by decide) ?_
    refine zx_goto C 51 dX8_countPointerBlocks_47 (by decide) ?_
    exact zx_lv [1, 2] [(0, .ref (x0)), (2, .long (x2))] rfl (j_X8_countPointerBlocks_51 C htab hin    hm)
set_option maxRecDepth 100000 in
set_option maxHeartbeats 1000000 in
theorem c_X8_countPointerBlocks {l : Launch} {D : va_G} {aC : Nat → ClassId} {b0 fu : Nat} {a0 : Nat} {p0 : Int32} {σ τ : tM} {v : Int32} (hm : m_X8_countPointerBlocks b0 fu a0 p0 σ = some (v, τ)) : tMt l D aC b0 yX8_countPointerBlocks (Cond.code yX8_countPointerBlocks cX8_countPointerBlocks 6 (some .int)) 2 43 [.ref (a0), .int (p0)] σ (.inl (some (.int v))) τ := by
  unfold m_X8_countPointerBlocks at hm
  obtain ⟨hg, hm⟩ := grw_e hm
  refine tMt_of (n := 0) rfl (Nat.le_of_ble_eq_true rfl) hg ?_
  intro p e s m below meth c C htab hin
  refine zx_lv [0, 1] [(0, .ref (a0)), (1, .int (p0))] rfl ?_
  refine zx_aload_n C dX8_countPointerBlocks_0 0 rfl ?_
  refine zx_iload_n C dX8_countPointerBlocks_1 1 rfl ?_
  obtain ⟨k1, i2, hm⟩ := ckO_e hm
  obtain ⟨v3, ρ4, h5, hm⟩ := cll_e hm
  refine zx_callV (σ := σ) C [.int (p0)] tC_8 k1 i2 Y_X8_kind W_3_79 W_3_80 W_3_81 (c_X8_kind h5) (by decide) (by decide) rfl (Nat.le_of_ble_eq_true rfl) dX8_countPointerBlocks_2 rfl ?_
  refine zx_iconst (v := 3) C dX8_countPointerBlocks_5 (by decide) ?_
  refine zx_icmp_ne C 11 dX8_countPointerBlocks_6 (by decide) (fun c6 => ?_) (fun c6 => ?_)
  · replace hm := in_e hm c6
    refine zx_aload_n C dX8_countPointerBlocks_11 0 rfl ?_
    refine zx_iload_n C dX8_countPointerBlocks_12 1 rfl ?_
    refine zx_bipush (v := 10) C dX8_countPointerBlocks_13 (by decide) ?_
    obtain ⟨k7, i8, hm⟩ := ckO_e hm
    obtain ⟨v9, ρ10, h11, hm⟩ := cll_e hm
    refine zx_callV (σ := ρ4) C [.int (p0), .int (10)] tC_8 k7 i8 Y_X8_nodeWord W_3_83 W_3_84 W_3_85 (c_X8_nodeWord h11) (by decide) (by decide) rfl (Nat.le_of_ble_eq_true rfl) dX8_countPointerBlocks_15 rfl ?_
    refine zx_lstore_n C [(2, .long (v9)), (0, .ref (a0)), (1, .int (p0))] dX8_countPointerBlocks_18 rfl (by decide) rfl ?_
    refine zx_aload_n C dX8_countPointerBlocks_19 1 rfl ?_
    refine zx_iload_n C dX8_countPointerBlocks_20 2 rfl ?_
    refine zx_bipush (v := 9) C dX8_countPointerBlocks_21 (by decide) ?_
    obtain ⟨k12, i13, hm⟩ := ckO_e hm
    obtain ⟨v14, ρ15, h16, hm⟩ := cll_e hm
    refine zx_callV (σ := ρ10) C [.int (p0), .int (9)] tC_8 k12 i13 Y_X8_nodeWord W_3_83 W_3_84 W_3_85 (c_X8_nodeWord h16) (by decide) (by decide) rfl (Nat.le_of_ble_eq_true rfl) dX8_countPointerBlocks_23 rfl ?_
    refine zx_lconst (v := 0) C dX8_countPointerBlocks_26 (by decide) ?_
    refine zx_lcmp C dX8_countPointerBlocks_27 ?_
    refine zx_if_ne C 35 dX8_countPointerBlocks_28 (by decide) (fun c17 => ?_) (fun c17 => ?_)
    · replace hm := in_e hm c17
      refine zx_iconst (v := 1) C dX8_countPointerBlocks_35 (by decide) ?_
      exact zx_lv [1, 0] [(0, .ref (a0)), (2, .long (v9))] rfl (j_X8_countPointerBlocks_36 C htab hin    hm)
    · replace hm := ip_e hm c17
      refine zx_iconst (v := 0) C dX8_countPointerBlocks_31 (by decide) ?_
      refine zx_goto C 36 dX8_countPointerBlocks_32 (by decide) ?_
      exact zx_lv [1, 0] [(0, .ref (a0)), (2, .long (v9))] rfl (j_X8_countPointerBlocks_36 C htab hin    hm)
  · replace hm := ip_e hm c6
    refine zx_iconst (v := 0) C dX8_countPointerBlocks_9 (by decide) ?_
    obtain ⟨rfl, rfl⟩ := ret_e hm
    exact zx_iret C rfl rfl rfl dX8_countPointerBlocks_10
abbrev cX8_entries : ByteArray := prog_10_method_41_code
def yX8_entries : MethodName := ⟨"SyncTree$Tree", "entries", "(I)I"⟩
theorem Y_X8_entries : tY yX8_entries cX8_entries 4 (some .int) 1 := ⟨W_4_107, W_1_4, ⟨by decide +kernel, by decide +kernel⟩, by decide +kernel⟩
theorem dX8_entries_0 : decode cX8_entries 0 = .ok (.aload_n 0, 1) := by decide +kernel
theorem dX8_entries_1 : decode cX8_entries 1 = .ok (.iload_n 1, 1) := by decide +kernel
theorem dX8_entries_2 : decode cX8_entries 2 = .ok (.iconst 0, 1) := by decide +kernel
theorem dX8_entries_3 : decode cX8_entries 3 = .ok (.invokevirtual 30, 3) := by decide +kernel
theorem dX8_entries_6 : decode cX8_entries 6 = .ok (.lstore_n 2, 1) := by decide +kernel
theorem dX8_entries_7 : decode cX8_entries 7 = .ok (.lload_n 2, 1) := by decide +kernel
theorem dX8_entries_8 : decode cX8_entries 8 = .ok (.ldc2_w 34, 3) := by decide +kernel
theorem dX8_entries_11 : decode cX8_entries 11 = .ok (.land, 1) := by decide +kernel
theorem dX8_entries_12 : decode cX8_entries 12 = .ok (.ldc2_w 167, 3) := by decide +kernel
theorem dX8_entries_15 : decode cX8_entries 15 = .ok (.lcmp, 1) := by decide +kernel
theorem dX8_entries_16 : decode cX8_entries 16 = .ok (.ifCond .ne 14, 3) := by decide +kernel
theorem dX8_entries_19 : decode cX8_entries 19 = .ok (.lload_n 2, 1) := by decide +kernel
theorem dX8_entries_20 : decode cX8_entries 20 = .ok (.bipush 32, 2) := by decide +kernel
theorem dX8_entries_22 : decode cX8_entries 22 = .ok (.lushr, 1) := by decide +kernel
theorem dX8_entries_23 : decode cX8_entries 23 = .ok (.l2i, 1) := by decide +kernel
theorem dX8_entries_24 : decode cX8_entries 24 = .ok (.bipush 32, 2) := by decide +kernel
theorem dX8_entries_26 : decode cX8_entries 26 = .ok (.idiv, 1) := by decide +kernel
theorem dX8_entries_27 : decode cX8_entries 27 = .ok (.goto 4, 3) := by decide +kernel
theorem dX8_entries_30 : decode cX8_entries 30 = .ok (.iconst 0, 1) := by decide +kernel
theorem dX8_entries_31 : decode cX8_entries 31 = .ok (.ireturn, 1) := by decide +kernel
set_option maxRecDepth 100000 in
set_option maxHeartbeats 1000000 in
theorem j_X8_entries_31 {p : Program} {l : Launch} {e : Env} {s : State} {m : MethodId} {args : Array Value} {below : List Frame} {meth : Method} {c : Code} {D : va_G} {aC : Nat → ClassId} {b0 fu : Nat} {σ0 τ : tM} {v : Int32}  (C : tCx p l s m args meth c yX8_entries.cls cX8_entries 4 (some .int) D aC b0 σ0) (htab : ∀ x ∈ c.exceptionTable.toList, False) (hin : meth.name = yX8_entries.name)  {s0 : Int32} {σ : tM} (hm : J_X8_entries_31 b0 fu  s0 σ = some (v, τ)) : tX p l e s m args below meth c 4 1 22 D aC b0 σ0 (.inl (some (.int v))) τ 31 [] [.int (s0)] σ := by
  unfold J_X8_entries_31 at hm
  obtain ⟨rfl, rfl⟩ := ret_e hm
  exact zx_iret C rfl rfl rfl dX8_entries_31
set_option maxRecDepth 100000 in
set_option maxHeartbeats 1000000 in
theorem c_X8_entries {l : Launch} {D : va_G} {aC : Nat → ClassId} {b0 fu : Nat} {a0 : Nat} {p0 : Int32} {σ τ : tM} {v : Int32} (hm : m_X8_entries b0 fu a0 p0 σ = some (v, τ)) : tMt l D aC b0 yX8_entries (Cond.code yX8_entries cX8_entries 4 (some .int)) 1 22 [.ref (a0), .int (p0)] σ (.inl (some (.int v))) τ := by
  unfold m_X8_entries at hm
  obtain ⟨hg, hm⟩ := grw_e hm
  refine tMt_of (n := 0) rfl (Nat.le_of_ble_eq_true rfl) hg ?_
  intro p e s m below meth c C htab hin
  refine zx_lv [0, 1] [(0, .ref (a0)), (1, .int (p0))] rfl ?_
  refine zx_aload_n C dX8_entries_0 0 rfl ?_
  refine zx_iload_n C dX8_entries_1 1 rfl ?_
  refine zx_iconst (v := 0) C dX8_entries_2 (by decide) ?_
  obtain ⟨k1, i2, hm⟩ := ckO_e hm
  obtain ⟨v3, ρ4, h5, hm⟩ := cll_e hm
  refine zx_callV (σ := σ) C [.int (p0), .int (0)] tC_8 k1 i2 Y_X8_nodeWord W_3_83 W_3_84 W_3_85 (c_X8_nodeWord h5) (by decide) (by decide) rfl (Nat.le_of_ble_eq_true rfl) dX8_entries_3 rfl ?_
  refine zx_lstore_n C [(2, .long (v3)), (0, .ref (a0)), (1, .int (p0))] dX8_entries_6 rfl (by decide) rfl ?_
  refine zx_lload_n C dX8_entries_7 0 rfl ?_
  refine zx_ldc2 (v := 255) C W_3_87 dX8_entries_8 ?_
  refine zx_land C dX8_entries_11 ?_
  refine zx_ldc2 (v := 2) C W_4_108 dX8_entries_12 ?_
  refine zx_lcmp C dX8_entries_15 ?_
  refine zx_if_ne C 30 dX8_entries_16 (by decide) (fun c6 => ?_) (fun c6 => ?_)
  · replace hm := in_e hm c6
    refine zx_iconst (v := 0) C dX8_entries_30 (by decide) ?_
    exact zx_lv [] [] rfl (j_X8_entries_31 C htab hin    hm)
  · replace hm := ip_e hm c6
    refine zx_lload_n C dX8_entries_19 0 rfl ?_
    refine zx_bipush (v := 32) C dX8_entries_20 (by decide) ?_
    refine zx_lushr C dX8_entries_22 ?_
    refine zx_l2i C dX8_entries_23 ?_
    refine zx_bipush (v := 32) C dX8_entries_24 (by decide) ?_
    refine zx_idiv C dX8_entries_26 (by decide) ?_
    refine zx_goto C 31 dX8_entries_27 (by decide) ?_
    exact zx_lv [] [] rfl (j_X8_entries_31 C htab hin    hm)
abbrev cX8_nameLength : ByteArray := prog_10_method_43_code
def yX8_nameLength : MethodName := ⟨"SyncTree$Tree", "nameLength", "(II)I"⟩
theorem Y_X8_nameLength : tY yX8_nameLength cX8_nameLength 3 (some .int) 2 := ⟨W_4_169, W_1_4, ⟨by decide +kernel, by decide +kernel⟩, by decide +kernel⟩
theorem dX8_nameLength_0 : decode cX8_nameLength 0 = .ok (.aload_n 0, 1) := by decide +kernel
theorem dX8_nameLength_1 : decode cX8_nameLength 1 = .ok (.getfield 15, 3) := by decide +kernel
theorem dX8_nameLength_4 : decode cX8_nameLength 4 = .ok (.aload_n 0, 1) := by decide +kernel
theorem dX8_nameLength_5 : decode cX8_nameLength 5 = .ok (.iload_n 1, 1) := by decide +kernel
theorem dX8_nameLength_6 : decode cX8_nameLength 6 = .ok (.iload_n 2, 1) := by decide +kernel
theorem dX8_nameLength_7 : decode cX8_nameLength 7 = .ok (.bipush 8, 2) := by decide +kernel
theorem dX8_nameLength_9 : decode cX8_nameLength 9 = .ok (.idiv, 1) := by decide +kernel
theorem dX8_nameLength_10 : decode cX8_nameLength 10 = .ok (.invokevirtual 112, 3) := by decide +kernel
theorem dX8_nameLength_13 : decode cX8_nameLength 13 = .ok (.invokestatic 104, 3) := by decide +kernel
theorem dX8_nameLength_16 : decode cX8_nameLength 16 = .ok (.iload_n 2, 1) := by decide +kernel
theorem dX8_nameLength_17 : decode cX8_nameLength 17 = .ok (.bipush 8, 2) := by decide +kernel
theorem dX8_nameLength_19 : decode cX8_nameLength 19 = .ok (.irem, 1) := by decide +kernel
theorem dX8_nameLength_20 : decode cX8_nameLength 20 = .ok (.bipush 32, 2) := by decide +kernel
theorem dX8_nameLength_22 : decode cX8_nameLength 22 = .ok (.imul, 1) := by decide +kernel
theorem dX8_nameLength_23 : decode cX8_nameLength 23 = .ok (.bipush 28, 2) := by decide +kernel
theorem dX8_nameLength_25 : decode cX8_nameLength 25 = .ok (.iadd, 1) := by decide +kernel
theorem dX8_nameLength_26 : decode cX8_nameLength 26 = .ok (.invokevirtual 86, 3) := by decide +kernel
theorem dX8_nameLength_29 : decode cX8_nameLength 29 = .ok (.ireturn, 1) := by decide +kernel
set_option maxRecDepth 100000 in
set_option maxHeartbeats 1000000 in
theorem c_X8_nameLength {l : Launch} {D : va_G} {aC : Nat → ClassId} {b0 fu : Nat} {a0 : Nat} {p0 : Int32} {p1 : Int32} {σ τ : tM} {v : Int32} (hm : m_X8_nameLength b0 fu a0 p0 p1 σ = some (v, τ)) : tMt l D aC b0 yX8_nameLength (Cond.code yX8_nameLength cX8_nameLength 3 (some .int)) 2 47 [.ref (a0), .int (p0), .int (p1)] σ (.inl (some (.int v))) τ := by
  unfold m_X8_nameLength at hm
  obtain ⟨hg, hm⟩ := grw_e hm
  refine tMt_of (n := 0) rfl (Nat.le_of_ble_eq_true rfl) hg ?_
  intro p e s m below meth c C htab hin
  refine zx_lv [0, 1, 2] [(0, .ref (a0)), (1, .int (p0)), (2, .int (p1))] rfl ?_
  refine zx_aload_n C dX8_nameLength_0 0 rfl ?_
  obtain ⟨k1, i2, hm⟩ := ckO_e hm
  obtain ⟨a3, h4, hm⟩ := osm_e hm
  refine zx_get (j := 0) C tC_8 k1 i2 ⟨by decide, Or.inl W_1_163⟩ dX8_nameLength_1 (.ref a3) (rf_s h4) ?_
  refine zx_aload_n C dX8_nameLength_4 0 rfl ?_
  refine zx_iload_n C dX8_nameLength_5 1 rfl ?_
  refine zx_iload_n C dX8_nameLength_6 2 rfl ?_
  refine zx_bipush (v := 8) C dX8_nameLength_7 (by decide) ?_
  refine zx_idiv C dX8_nameLength_9 (by decide) ?_
  obtain ⟨v5, ρ6, h7, hm⟩ := cll_e hm
  refine zx_callV (σ := σ) C [.int (p0), .int ((p1) / (8))] tC_8 k1 i2 Y_X8_pointer W_4_109 W_4_110 W_4_111 (c_X8_pointer h7) (by decide) (by decide) rfl (Nat.le_of_ble_eq_true rfl) dX8_nameLength_10 rfl ?_
  obtain ⟨v8, ρ9, h10, hm⟩ := cll_e hm
  refine zx_callS (σ := ρ6) C [.long (v5)] Y_X8_cellOf W_4_117 W_4_118 (c_X8_cellOf h10) (by decide) (by decide) rfl (Nat.le_of_ble_eq_true rfl) dX8_nameLength_13 rfl ?_
  refine zx_iload_n C dX8_nameLength_16 2 rfl ?_
  refine zx_bipush (v := 8) C dX8_nameLength_17 (by decide) ?_
  refine zx_irem C dX8_nameLength_19 (by decide) ?_
  refine zx_bipush (v := 32) C dX8_nameLength_20 (by decide) ?_
  refine zx_imul C dX8_nameLength_22 ?_
  refine zx_bipush (v := 28) C dX8_nameLength_23 (by decide) ?_
  refine zx_iadd C dX8_nameLength_25 ?_
  obtain ⟨k11, i12, hm⟩ := ckO_e hm
  obtain ⟨v13, ρ14, h15, hm⟩ := cll_e hm
  refine zx_callV (σ := ρ9) C [.int (v8), .int ((((p1) - (p1) / (8) * (8)) * (32)) + (28))] tC_5 k11 i12 Y_X5_octet W_4_120 W_4_121 W_4_122 (c_X5_octet h15) (by decide) (by decide) rfl (Nat.le_of_ble_eq_true rfl) dX8_nameLength_26 rfl ?_
  obtain ⟨rfl, rfl⟩ := ret_e hm
  exact zx_iret C rfl rfl rfl dX8_nameLength_29
abbrev cX8_nameOctet : ByteArray := prog_10_method_44_code
def yX8_nameOctet : MethodName := ⟨"SyncTree$Tree", "nameOctet", "(III)I"⟩
theorem Y_X8_nameOctet : tY yX8_nameOctet cX8_nameOctet 4 (some .int) 3 := ⟨W_6_9, W_1_4, ⟨by decide +kernel, by decide +kernel⟩, by decide +kernel⟩
theorem dX8_nameOctet_0 : decode cX8_nameOctet 0 = .ok (.aload_n 0, 1) := by decide +kernel
theorem dX8_nameOctet_1 : decode cX8_nameOctet 1 = .ok (.getfield 15, 3) := by decide +kernel
theorem dX8_nameOctet_4 : decode cX8_nameOctet 4 = .ok (.aload_n 0, 1) := by decide +kernel
theorem dX8_nameOctet_5 : decode cX8_nameOctet 5 = .ok (.iload_n 1, 1) := by decide +kernel
theorem dX8_nameOctet_6 : decode cX8_nameOctet 6 = .ok (.iload_n 2, 1) := by decide +kernel
theorem dX8_nameOctet_7 : decode cX8_nameOctet 7 = .ok (.bipush 8, 2) := by decide +kernel
theorem dX8_nameOctet_9 : decode cX8_nameOctet 9 = .ok (.idiv, 1) := by decide +kernel
theorem dX8_nameOctet_10 : decode cX8_nameOctet 10 = .ok (.invokevirtual 112, 3) := by decide +kernel
theorem dX8_nameOctet_13 : decode cX8_nameOctet 13 = .ok (.invokestatic 104, 3) := by decide +kernel
theorem dX8_nameOctet_16 : decode cX8_nameOctet 16 = .ok (.iload_n 2, 1) := by decide +kernel
theorem dX8_nameOctet_17 : decode cX8_nameOctet 17 = .ok (.bipush 8, 2) := by decide +kernel
theorem dX8_nameOctet_19 : decode cX8_nameOctet 19 = .ok (.irem, 1) := by decide +kernel
theorem dX8_nameOctet_20 : decode cX8_nameOctet 20 = .ok (.bipush 32, 2) := by decide +kernel
theorem dX8_nameOctet_22 : decode cX8_nameOctet 22 = .ok (.imul, 1) := by decide +kernel
theorem dX8_nameOctet_23 : decode cX8_nameOctet 23 = .ok (.iload_n 3, 1) := by decide +kernel
theorem dX8_nameOctet_24 : decode cX8_nameOctet 24 = .ok (.iadd, 1) := by decide +kernel
theorem dX8_nameOctet_25 : decode cX8_nameOctet 25 = .ok (.invokevirtual 86, 3) := by decide +kernel
theorem dX8_nameOctet_28 : decode cX8_nameOctet 28 = .ok (.ireturn, 1) := by decide +kernel
set_option maxRecDepth 100000 in
set_option maxHeartbeats 1000000 in
theorem c_X8_nameOctet {l : Launch} {D : va_G} {aC : Nat → ClassId} {b0 fu : Nat} {a0 : Nat} {p0 : Int32} {p1 : Int32} {p2 : Int32} {σ τ : tM} {v : Int32} (hm : m_X8_nameOctet b0 fu a0 p0 p1 p2 σ = some (v, τ)) : tMt l D aC b0 yX8_nameOctet (Cond.code yX8_nameOctet cX8_nameOctet 4 (some .int)) 2 47 [.ref (a0), .int (p0), .int (p1), .int (p2)] σ (.inl (some (.int v))) τ := by
  unfold m_X8_nameOctet at hm
  obtain ⟨hg, hm⟩ := grw_e hm
  refine tMt_of (n := 0) rfl (Nat.le_of_ble_eq_true rfl) hg ?_
  intro p e s m below meth c C htab hin
  refine zx_lv [0, 1, 2, 3] [(0, .ref (a0)), (1, .int (p0)), (2, .int (p1)), (3, .int (p2))] rfl ?_
  refine zx_aload_n C dX8_nameOctet_0 0 rfl ?_
  obtain ⟨k1, i2, hm⟩ := ckO_e hm
  obtain ⟨a3, h4, hm⟩ := osm_e hm
  refine zx_get (j := 0) C tC_8 k1 i2 ⟨by decide, Or.inl W_1_163⟩ dX8_nameOctet_1 (.ref a3) (rf_s h4) ?_
  refine zx_aload_n C dX8_nameOctet_4 0 rfl ?_
  refine zx_iload_n C dX8_nameOctet_5 1 rfl ?_
  refine zx_iload_n C dX8_nameOctet_6 2 rfl ?_
  refine zx_bipush (v := 8) C dX8_nameOctet_7 (by decide) ?_
  refine zx_idiv C dX8_nameOctet_9 (by decide) ?_
  obtain ⟨v5, ρ6, h7, hm⟩ := cll_e hm
  refine zx_callV (σ := σ) C [.int (p0), .int ((p1) / (8))] tC_8 k1 i2 Y_X8_pointer W_4_109 W_4_110 W_4_111 (c_X8_pointer h7) (by decide) (by decide) rfl (Nat.le_of_ble_eq_true rfl) dX8_nameOctet_10 rfl ?_
  obtain ⟨v8, ρ9, h10, hm⟩ := cll_e hm
  refine zx_callS (σ := ρ6) C [.long (v5)] Y_X8_cellOf W_4_117 W_4_118 (c_X8_cellOf h10) (by decide) (by decide) rfl (Nat.le_of_ble_eq_true rfl) dX8_nameOctet_13 rfl ?_
  refine zx_iload_n C dX8_nameOctet_16 2 rfl ?_
  refine zx_bipush (v := 8) C dX8_nameOctet_17 (by decide) ?_
  refine zx_irem C dX8_nameOctet_19 (by decide) ?_
  refine zx_bipush (v := 32) C dX8_nameOctet_20 (by decide) ?_
  refine zx_imul C dX8_nameOctet_22 ?_
  refine zx_iload_n C dX8_nameOctet_23 3 rfl ?_
  refine zx_iadd C dX8_nameOctet_24 ?_
  obtain ⟨k11, i12, hm⟩ := ckO_e hm
  obtain ⟨v13, ρ14, h15, hm⟩ := cll_e hm
  refine zx_callV (σ := ρ9) C [.int (v8), .int ((((p1) - (p1) / (8) * (8)) * (32)) + (p2))] tC_5 k11 i12 Y_X5_octet W_4_120 W_4_121 W_4_122 (c_X5_octet h15) (by decide) (by decide) rfl (Nat.le_of_ble_eq_true rfl) dX8_nameOctet_25 rfl ?_
  obtain ⟨rfl, rfl⟩ := ret_e hm
  exact zx_iret C rfl rfl rfl dX8_nameOctet_28
abbrev cX8_nodeAt : ByteArray := prog_10_method_45_code
def yX8_nodeAt : MethodName := ⟨"SyncTree$Tree", "nodeAt", "(II)I"⟩
theorem Y_X8_nodeAt : tY yX8_nodeAt cX8_nodeAt 3 (some .int) 2 := ⟨W_4_127, W_1_4, ⟨by decide +kernel, by decide +kernel⟩, by decide +kernel⟩
theorem dX8_nodeAt_0 : decode cX8_nodeAt 0 = .ok (.aload_n 0, 1) := by decide +kernel
theorem dX8_nodeAt_1 : decode cX8_nodeAt 1 = .ok (.getfield 15, 3) := by decide +kernel
theorem dX8_nodeAt_4 : decode cX8_nodeAt 4 = .ok (.aload_n 0, 1) := by decide +kernel
theorem dX8_nodeAt_5 : decode cX8_nodeAt 5 = .ok (.iload_n 1, 1) := by decide +kernel
theorem dX8_nodeAt_6 : decode cX8_nodeAt 6 = .ok (.iload_n 2, 1) := by decide +kernel
theorem dX8_nodeAt_7 : decode cX8_nodeAt 7 = .ok (.bipush 8, 2) := by decide +kernel
theorem dX8_nodeAt_9 : decode cX8_nodeAt 9 = .ok (.idiv, 1) := by decide +kernel
theorem dX8_nodeAt_10 : decode cX8_nodeAt 10 = .ok (.invokevirtual 112, 3) := by decide +kernel
theorem dX8_nodeAt_13 : decode cX8_nodeAt 13 = .ok (.invokestatic 104, 3) := by decide +kernel
theorem dX8_nodeAt_16 : decode cX8_nodeAt 16 = .ok (.iload_n 2, 1) := by decide +kernel
theorem dX8_nodeAt_17 : decode cX8_nodeAt 17 = .ok (.bipush 8, 2) := by decide +kernel
theorem dX8_nodeAt_19 : decode cX8_nodeAt 19 = .ok (.irem, 1) := by decide +kernel
theorem dX8_nodeAt_20 : decode cX8_nodeAt 20 = .ok (.bipush 32, 2) := by decide +kernel
theorem dX8_nodeAt_22 : decode cX8_nodeAt 22 = .ok (.imul, 1) := by decide +kernel
theorem dX8_nodeAt_23 : decode cX8_nodeAt 23 = .ok (.bipush 29, 2) := by decide +kernel
theorem dX8_nodeAt_25 : decode cX8_nodeAt 25 = .ok (.iadd, 1) := by decide +kernel
theorem dX8_nodeAt_26 : decode cX8_nodeAt 26 = .ok (.invokevirtual 86, 3) := by decide +kernel
theorem dX8_nodeAt_29 : decode cX8_nodeAt 29 = .ok (.ireturn, 1) := by decide +kernel
set_option maxRecDepth 100000 in
set_option maxHeartbeats 1000000 in
theorem c_X8_nodeAt {l : Launch} {D : va_G} {aC : Nat → ClassId} {b0 fu : Nat} {a0 : Nat} {p0 : Int32} {p1 : Int32} {σ τ : tM} {v : Int32} (hm : m_X8_nodeAt b0 fu a0 p0 p1 σ = some (v, τ)) : tMt l D aC b0 yX8_nodeAt (Cond.code yX8_nodeAt cX8_nodeAt 3 (some .int)) 2 47 [.ref (a0), .int (p0), .int (p1)] σ (.inl (some (.int v))) τ := by
  unfold m_X8_nodeAt at hm
  obtain ⟨hg, hm⟩ := grw_e hm
  refine tMt_of (n := 0) rfl (Nat.le_of_ble_eq_true rfl) hg ?_
  intro p e s m below meth c C htab hin
  refine zx_lv [0, 1, 2] [(0, .ref (a0)), (1, .int (p0)), (2, .int (p1))] rfl ?_
  refine zx_aload_n C dX8_nodeAt_0 0 rfl ?_
  obtain ⟨k1, i2, hm⟩ := ckO_e hm
  obtain ⟨a3, h4, hm⟩ := osm_e hm
  refine zx_get (j := 0) C tC_8 k1 i2 ⟨by decide, Or.inl W_1_163⟩ dX8_nodeAt_1 (.ref a3) (rf_s h4) ?_
  refine zx_aload_n C dX8_nodeAt_4 0 rfl ?_
  refine zx_iload_n C dX8_nodeAt_5 1 rfl ?_
  refine zx_iload_n C dX8_nodeAt_6 2 rfl ?_
  refine zx_bipush (v := 8) C dX8_nodeAt_7 (by decide) ?_
  refine zx_idiv C dX8_nodeAt_9 (by decide) ?_
  obtain ⟨v5, ρ6, h7, hm⟩ := cll_e hm
  refine zx_callV (σ := σ) C [.int (p0), .int ((p1) / (8))] tC_8 k1 i2 Y_X8_pointer W_4_109 W_4_110 W_4_111 (c_X8_pointer h7) (by decide) (by decide) rfl (Nat.le_of_ble_eq_true rfl) dX8_nodeAt_10 rfl ?_
  obtain ⟨v8, ρ9, h10, hm⟩ := cll_e hm
  refine zx_callS (σ := ρ6) C [.long (v5)] Y_X8_cellOf W_4_117 W_4_118 (c_X8_cellOf h10) (by decide) (by decide) rfl (Nat.le_of_ble_eq_true rfl) dX8_nodeAt_13 rfl ?_
  refine zx_iload_n C dX8_nodeAt_16 2 rfl ?_
  refine zx_bipush (v := 8) C dX8_nodeAt_17 (by decide) ?_
  refine zx_irem C dX8_nodeAt_19 (by decide) ?_
  refine zx_bipush (v := 32) C dX8_nodeAt_20 (by decide) ?_
  refine zx_imul C dX8_nodeAt_22 ?_
  refine zx_bipush (v := 29) C dX8_nodeAt_23 (by decide) ?_
  refine zx_iadd C dX8_nodeAt_25 ?_
  obtain ⟨k11, i12, hm⟩ := ckO_e hm
  obtain ⟨v13, ρ14, h15, hm⟩ := cll_e hm
  refine zx_callV (σ := ρ9) C [.int (v8), .int ((((p1) - (p1) / (8) * (8)) * (32)) + (29))] tC_5 k11 i12 Y_X5_octet W_4_120 W_4_121 W_4_122 (c_X5_octet h15) (by decide) (by decide) rfl (Nat.le_of_ble_eq_true rfl) dX8_nodeAt_26 rfl ?_
  obtain ⟨rfl, rfl⟩ := ret_e hm
  exact zx_iret C rfl rfl rfl dX8_nodeAt_29
abbrev cX8_find : ByteArray := prog_10_method_47_code
def yX8_find : MethodName := ⟨"SyncTree$Tree", "find", "(I[BII)I"⟩
theorem Y_X8_find : tY yX8_find cX8_find 10 (some .int) 4 := ⟨W_4_103, W_1_4, ⟨by decide +kernel, by decide +kernel⟩, by decide +kernel⟩
theorem dX8_find_0 : decode cX8_find 0 = .ok (.iload 4, 2) := by decide +kernel
theorem dX8_find_2 : decode cX8_find 2 = .ok (.iconst 1, 1) := by decide +kernel
theorem dX8_find_3 : decode cX8_find 3 = .ok (.if_icmp .lt 23, 3) := by decide +kernel
theorem dX8_find_6 : decode cX8_find 6 = .ok (.iload 4, 2) := by decide +kernel
theorem dX8_find_8 : decode cX8_find 8 = .ok (.bipush 28, 2) := by decide +kernel
theorem dX8_find_10 : decode cX8_find 10 = .ok (.if_icmp .gt 16, 3) := by decide +kernel
theorem dX8_find_13 : decode cX8_find 13 = .ok (.iload_n 3, 1) := by decide +kernel
theorem dX8_find_14 : decode cX8_find 14 = .ok (.ifCond .lt 12, 3) := by decide +kernel
theorem dX8_find_17 : decode cX8_find 17 = .ok (.iload_n 3, 1) := by decide +kernel
theorem dX8_find_18 : decode cX8_find 18 = .ok (.aload_n 2, 1) := by decide +kernel
theorem dX8_find_19 : decode cX8_find 19 = .ok (.arraylength, 1) := by decide +kernel
theorem dX8_find_20 : decode cX8_find 20 = .ok (.iload 4, 2) := by decide +kernel
theorem dX8_find_22 : decode cX8_find 22 = .ok (.isub, 1) := by decide +kernel
theorem dX8_find_23 : decode cX8_find 23 = .ok (.if_icmp .le 5, 3) := by decide +kernel
theorem dX8_find_26 : decode cX8_find 26 = .ok (.iconst (-1), 1) := by decide +kernel
theorem dX8_find_27 : decode cX8_find 27 = .ok (.ireturn, 1) := by decide +kernel
theorem dX8_find_28 : decode cX8_find 28 = .ok (.aload_n 0, 1) := by decide +kernel
theorem dX8_find_29 : decode cX8_find 29 = .ok (.iload_n 1, 1) := by decide +kernel
theorem dX8_find_30 : decode cX8_find 30 = .ok (.invokevirtual 169, 3) := by decide +kernel
theorem dX8_find_33 : decode cX8_find 33 = .ok (.istore 5, 2) := by decide +kernel
theorem dX8_find_35 : decode cX8_find 35 = .ok (.iconst 0, 1) := by decide +kernel
theorem dX8_find_36 : decode cX8_find 36 = .ok (.istore 6, 2) := by decide +kernel
theorem dX8_find_38 : decode cX8_find 38 = .ok (.iconst 0, 1) := by decide +kernel
theorem dX8_find_39 : decode cX8_find 39 = .ok (.istore 7, 2) := by decide +kernel
theorem dX8_find_41 : decode cX8_find 41 = .ok (.iload 7, 2) := by decide +kernel
theorem dX8_find_43 : decode cX8_find 43 = .ok (.iload 5, 2) := by decide +kernel
theorem dX8_find_45 : decode cX8_find 45 = .ok (.if_icmp .ge 123, 3) := by decide +kernel
theorem dX8_find_48 : decode cX8_find 48 = .ok (.iload 7, 2) := by decide +kernel
theorem dX8_find_50 : decode cX8_find 50 = .ok (.bipush 8, 2) := by decide +kernel
theorem dX8_find_52 : decode cX8_find 52 = .ok (.irem, 1) := by decide +kernel
theorem dX8_find_53 : decode cX8_find 53 = .ok (.bipush 32, 2) := by decide +kernel
theorem dX8_find_55 : decode cX8_find 55 = .ok (.imul, 1) := by decide +kernel
theorem dX8_find_56 : decode cX8_find 56 = .ok (.istore 8, 2) := by decide +kernel
theorem dX8_find_58 : decode cX8_find 58 = .ok (.iload 8, 2) := by decide +kernel
theorem dX8_find_60 : decode cX8_find 60 = .ok (.ifCond .ne 18, 3) := by decide +kernel
theorem dX8_find_63 : decode cX8_find 63 = .ok (.aload_n 0, 1) := by decide +kernel
theorem dX8_find_64 : decode cX8_find 64 = .ok (.iload_n 1, 1) := by decide +kernel
theorem dX8_find_65 : decode cX8_find 65 = .ok (.iload 7, 2) := by decide +kernel
theorem dX8_find_67 : decode cX8_find 67 = .ok (.bipush 8, 2) := by decide +kernel
theorem dX8_find_69 : decode cX8_find 69 = .ok (.idiv, 1) := by decide +kernel
theorem dX8_find_70 : decode cX8_find 70 = .ok (.invokevirtual 112, 3) := by decide +kernel
theorem dX8_find_73 : decode cX8_find 73 = .ok (.invokestatic 104, 3) := by decide +kernel
theorem dX8_find_76 : decode cX8_find 76 = .ok (.istore 6, 2) := by decide +kernel
theorem dX8_find_78 : decode cX8_find 78 = .ok (.aload_n 0, 1) := by decide +kernel
theorem dX8_find_79 : decode cX8_find 79 = .ok (.getfield 15, 3) := by decide +kernel
theorem dX8_find_82 : decode cX8_find 82 = .ok (.iload 6, 2) := by decide +kernel
theorem dX8_find_84 : decode cX8_find 84 = .ok (.iload 8, 2) := by decide +kernel
theorem dX8_find_86 : decode cX8_find 86 = .ok (.bipush 28, 2) := by decide +kernel
theorem dX8_find_88 : decode cX8_find 88 = .ok (.iadd, 1) := by decide +kernel
theorem dX8_find_89 : decode cX8_find 89 = .ok (.invokevirtual 86, 3) := by decide +kernel
theorem dX8_find_92 : decode cX8_find 92 = .ok (.iload 4, 2) := by decide +kernel
theorem dX8_find_94 : decode cX8_find 94 = .ok (.if_icmp .ne 7, 3) := by decide +kernel
theorem dX8_find_97 : decode cX8_find 97 = .ok (.iconst 0, 1) := by decide +kernel
theorem dX8_find_98 : decode cX8_find 98 = .ok (.goto 4, 3) := by decide +kernel
theorem dX8_find_101 : decode cX8_find 101 = .ok (.iconst (-1), 1) := by decide +kernel
theorem dX8_find_102 : decode cX8_find 102 = .ok (.istore 9, 2) := by decide +kernel
theorem dX8_find_104 : decode cX8_find 104 = .ok (.iload 9, 2) := by decide +kernel
theorem dX8_find_106 : decode cX8_find 106 = .ok (.ifCond .lt 46, 3) := by decide +kernel
theorem dX8_find_109 : decode cX8_find 109 = .ok (.iload 9, 2) := by decide +kernel
theorem dX8_find_111 : decode cX8_find 111 = .ok (.iload 4, 2) := by decide +kernel
theorem dX8_find_113 : decode cX8_find 113 = .ok (.if_icmp .ge 39, 3) := by decide +kernel
theorem dX8_find_116 : decode cX8_find 116 = .ok (.aload_n 0, 1) := by decide +kernel
theorem dX8_find_117 : decode cX8_find 117 = .ok (.getfield 15, 3) := by decide +kernel
theorem dX8_find_120 : decode cX8_find 120 = .ok (.iload 6, 2) := by decide +kernel
theorem dX8_find_122 : decode cX8_find 122 = .ok (.iload 8, 2) := by decide +kernel
theorem dX8_find_124 : decode cX8_find 124 = .ok (.iload 9, 2) := by decide +kernel
theorem dX8_find_126 : decode cX8_find 126 = .ok (.iadd, 1) := by decide +kernel
theorem dX8_find_127 : decode cX8_find 127 = .ok (.invokevirtual 86, 3) := by decide +kernel
theorem dX8_find_130 : decode cX8_find 130 = .ok (.aload_n 2, 1) := by decide +kernel
theorem dX8_find_131 : decode cX8_find 131 = .ok (.iload_n 3, 1) := by decide +kernel
theorem dX8_find_132 : decode cX8_find 132 = .ok (.iload 9, 2) := by decide +kernel
theorem dX8_find_134 : decode cX8_find 134 = .ok (.iadd, 1) := by decide +kernel
theorem dX8_find_135 : decode cX8_find 135 = .ok (.baload, 1) := by decide +kernel
theorem dX8_find_136 : decode cX8_find 136 = .ok (.if_icmp .ne 10, 3) := by decide +kernel
theorem dX8_find_139 : decode cX8_find 139 = .ok (.iload 9, 2) := by decide +kernel
theorem dX8_find_141 : decode cX8_find 141 = .ok (.iconst 1, 1) := by decide +kernel
theorem dX8_find_142 : decode cX8_find 142 = .ok (.iadd, 1) := by decide +kernel
theorem dX8_find_143 : decode cX8_find 143 = .ok (.goto 4, 3) := by decide +kernel
theorem dX8_find_146 : decode cX8_find 146 = .ok (.iconst (-1), 1) := by decide +kernel
theorem dX8_find_147 : decode cX8_find 147 = .ok (.istore 9, 2) := by decide +kernel
theorem dX8_find_149 : decode cX8_find 149 = .ok (.goto (-45), 3) := by decide +kernel
theorem dX8_find_152 : decode cX8_find 152 = .ok (.iload 9, 2) := by decide +kernel
theorem dX8_find_154 : decode cX8_find 154 = .ok (.iload 4, 2) := by decide +kernel
theorem dX8_find_156 : decode cX8_find 156 = .ok (.if_icmp .ne 6, 3) := by decide +kernel
theorem dX8_find_159 : decode cX8_find 159 = .ok (.iload 7, 2) := by decide +kernel
theorem dX8_find_161 : decode cX8_find 161 = .ok (.ireturn, 1) := by decide +kernel
theorem dX8_find_162 : decode cX8_find 162 = .ok (.iinc 7 1, 3) := by decide +kernel
theorem dX8_find_165 : decode cX8_find 165 = .ok (.goto (-124), 3) := by decide +kernel
theorem dX8_find_168 : decode cX8_find 168 = .ok (.iconst (-1), 1) := by decide +kernel
theorem dX8_find_169 : decode cX8_find 169 = .ok (.ireturn, 1) := by decide +kernel
set_option maxRecDepth 100000 in
set_option maxHeartbeats 1000000 in
theorem j_X8_find_26 {p : Program} {l : Launch} {e : Env} {s : State} {m : MethodId} {args : Array Value} {below : List Frame} {meth : Method} {c : Code} {D : va_G} {aC : Nat → ClassId} {b0 fu : Nat} {σ0 τ : tM} {v : Int32}  (C : tCx p l s m args meth c yX8_find.cls cX8_find 10 (some .int) D aC b0 σ0) (htab : ∀ x ∈ c.exceptionTable.toList, False) (hin : meth.name = yX8_find.name)   {σ : tM} (hm : J_X8_find_26 b0 fu   σ = some (v, τ)) : tX p l e s m args below meth c 10 2 47 D aC b0 σ0 (.inl (some (.int v))) τ 26 [] [] σ := by
  unfold J_X8_find_26 at hm
  refine zx_iconst (v := (-1)) C dX8_find_26 (by decide) ?_
  obtain ⟨rfl, rfl⟩ := ret_e hm
  exact zx_iret C rfl rfl rfl dX8_find_27
set_option maxRecDepth 100000 in
set_option maxHeartbeats 1000000 in
theorem j_X8_find_152 {p : Program} {l : Launch} {e : Env} {s : State} {m : MethodId} {args : Array Value} {below : List Frame} {meth : Method} {c : Code} {D : va_G} {aC : Nat → ClassId} {b0 fu : Nat} {σ0 τ : tM} {v : Int32} {rc41 : Nat → Int32 → Nat → Int32 → Int32 → Int32 → Int32 → Int32 → tM → Option ((Int32) × tM)} (C : tCx p l s m args meth c yX8_find.cls cX8_find 10 (some .int) D aC b0 σ0) (htab : ∀ x ∈ c.exceptionTable.toList, False) (hin : meth.name = yX8_find.name) (hrc41 : ∀ (x0 : Nat) (x1 : Int32) (x2 : Nat) (x3 : Int32) (x4 : Int32) (x5 : Int32) (x6 : Int32) (x7 : Int32) (ρ : tM), rc41 x0 x1 x2 x3 x4 x5 x6 x7 ρ = some (v, τ) → tX p l e s m args below meth c 10 2 47 D aC b0 σ0 (.inl (some (.int v))) τ 41 [(0, .ref (x0)), (1, .int (x1)), (2, .ref (x2)), (3, .int (x3)), (4, .int (x4)), (5, .int (x5)), (6, .int (x6)), (7, .int (x7))] [] ρ) {x0 : Nat} {x1 : Int32} {x2 : Nat} {x3 : Int32} {x4 : Int32} {x5 : Int32} {x6 : Int32} {x7 : Int32} {x9 : Int32} {σ : tM} (hm : J_X8_find_152 b0 fu rc41 x0 x1 x2 x3 x4 x5 x6 x7 x9 σ = some (v, τ)) : tX p l e s m args below meth c 10 2 47 D aC b0 σ0 (.inl (some (.int v))) τ 152 [(0, .ref (x0)), (1, .int (x1)), (2, .ref (x2)), (3, .int (x3)), (4, .int (x4)), (5, .int (x5)), (6, .int (x6)), (7, .int (x7)), (9, .int (x9))] [] σ := by
  unfold J_X8_find_152 at hm
  refine zx_iload C dX8_find_152 8 rfl ?_
  refine zx_iload C dX8_find_154 4 rfl ?_
  refine zx_icmp_ne C 162 dX8_find_156 (by decide) (fun c27 => ?_) (fun c27 => ?_)
  · replace hm := in_e hm c27
    obtain ⟨y28, hy28⟩ : ∃ z : Int32, z = (x7) + Int32.ofInt 1 := ⟨_, rfl⟩
    replace hm := ltb_e hm hy28
    refine zx_iinc C [(7, .int (y28)), (0, .ref (x0)), (1, .int (x1)), (2, .ref (x2)), (3, .int (x3)), (4, .int (x4)), (5, .int (x5)), (6, .int (x6)), (9, .int (x9))] dX8_find_162 7 rfl hy28.symm (by decide) rfl ?_
    refine zx_goto C 41 dX8_find_165 (by decide) ?_
    exact zx_lv [1, 2, 3, 4, 5, 6, 7, 0] [(0, .ref (x0)), (1, .int (x1)), (2, .ref (x2)), (3, .int (x3)), (4, .int (x4)), (5, .int (x5)), (6, .int (x6)), (7, .int (y28))] rfl (hrc41 _ _ _ _ _ _ _ _ _ hm)
  · replace hm := ip_e hm c27
    refine zx_iload C dX8_find_159 7 rfl ?_
    obtain ⟨rfl, rfl⟩ := ret_e hm
    exact zx_iret C rfl rfl rfl dX8_find_161
set_option maxRecDepth 100000 in
set_option maxHeartbeats 1000000 in
theorem j_X8_find_147 {p : Program} {l : Launch} {e : Env} {s : State} {m : MethodId} {args : Array Value} {below : List Frame} {meth : Method} {c : Code} {D : va_G} {aC : Nat → ClassId} {b0 fu : Nat} {σ0 τ : tM} {v : Int32} {rc41 : Nat → Int32 → Nat → Int32 → Int32 → Int32 → Int32 → Int32 → tM → Option ((Int32) × tM)} {rc104 : Nat → Int32 → Nat → Int32 → Int32 → Int32 → Int32 → Int32 → Int32 → Int32 → tM → Option ((Int32) × tM)} (C : tCx p l s m args meth c yX8_find.cls cX8_find 10 (some .int) D aC b0 σ0) (htab : ∀ x ∈ c.exceptionTable.toList, False) (hin : meth.name = yX8_find.name) (hrc41 : ∀ (x0 : Nat) (x1 : Int32) (x2 : Nat) (x3 : Int32) (x4 : Int32) (x5 : Int32) (x6 : Int32) (x7 : Int32) (ρ : tM), rc41 x0 x1 x2 x3 x4 x5 x6 x7 ρ = some (v, τ) → tX p l e s m args below meth c 10 2 47 D aC b0 σ0 (.inl (some (.int v))) τ 41 [(0, .ref (x0)), (1, .int (x1)), (2, .ref (x2)), (3, .int (x3)), (4, .int (x4)), (5, .int (x5)), (6, .int (x6)), (7, .int (x7))] [] ρ) (hrc104 : ∀ (x0 : Nat) (x1 : Int32) (x2 : Nat) (x3 : Int32) (x4 : Int32) (x5 : Int32) (x6 : Int32) (x7 : Int32) (x8 : Int32) (x9 : Int32) (ρ : tM), rc104 x0 x1 x2 x3 x4 x5 x6 x7 x8 x9 ρ = some (v, τ) → tX p l e s m args below meth c 10 2 47 D aC b0 σ0 (.inl (some (.int v))) τ 104 [(0, .ref (x0)), (1, .int (x1)), (2, .ref (x2)), (3, .int (x3)), (4, .int (x4)), (5, .int (x5)), (6, .int (x6)), (7, .int (x7)), (8, .int (x8)), (9, .int (x9))] [] ρ) {x0 : Nat} {x1 : Int32} {x2 : Nat} {x3 : Int32} {x4 : Int32} {x5 : Int32} {x6 : Int32} {x7 : Int32} {x8 : Int32} {s0 : Int32} {σ : tM} (hm : J_X8_find_147 b0 fu rc41 rc104 x0 x1 x2 x3 x4 x5 x6 x7 x8 s0 σ = some (v, τ)) : tX p l e s m args below meth c 10 2 47 D aC b0 σ0 (.inl (some (.int v))) τ 147 [(0, .ref (x0)), (1, .int (x1)), (2, .ref (x2)), (3, .int (x3)), (4, .int (x4)), (5, .int (x5)), (6, .int (x6)), (7, .int (x7)), (8, .int (x8))] [.int (s0)] σ := by
  unfold J_X8_find_147 at hm
  refine zx_istore C [(9, .int (s0)), (0, .ref (x0)), (1, .int (x1)), (2, .ref (x2)), (3, .int (x3)), (4, .int (x4)), (5, .int (x5)), (6, .int (x6)), (7, .int (x7)), (8, .int (x8))] dX8_find_147 (by decide) rfl ?_
  refine zx_goto C 104 dX8_find_149 (by decide) ?_
  exact zx_lv [1, 2, 3, 4, 5, 6, 7, 8, 9, 0] [(0, .ref (x0)), (1, .int (x1)), (2, .ref (x2)), (3, .int (x3)), (4, .int (x4)), (5, .int (x5)), (6, .int (x6)), (7, .int (x7)), (8, .int (x8)), (9, .int (s0))] rfl (hrc104 _ _ _ _ _ _ _ _ _ _ _ hm)
set_option maxRecDepth 100000 in
set_option maxHeartbeats 1000000 in
theorem l_X8_find_104 {p : Program} {l : Launch} {e : Env} {s : State} {m : MethodId} {args : Array Value} {below : List Frame} {meth : Method} {c : Code} {D : va_G} {aC : Nat → ClassId} {b0 fu : Nat} {σ0 τ : tM} {v : Int32} {rc41 : Nat → Int32 → Nat → Int32 → Int32 → Int32 → Int32 → Int32 → tM → Option ((Int32) × tM)} (C : tCx p l s m args meth c yX8_find.cls cX8_find 10 (some .int) D aC b0 σ0) (htab : ∀ x ∈ c.exceptionTable.toList, False) (hin : meth.name = yX8_find.name) (hrc41 : ∀ (x0 : Nat) (x1 : Int32) (x2 : Nat) (x3 : Int32) (x4 : Int32) (x5 : Int32) (x6 : Int32) (x7 : Int32) (ρ : tM), rc41 x0 x1 x2 x3 x4 x5 x6 x7 ρ = some (v, τ) → tX p l e s m args below meth c 10 2 47 D aC b0 σ0 (.inl (some (.int v))) τ 41 [(0, .ref (x0)), (1, .int (x1)), (2, .ref (x2)), (3, .int (x3)), (4, .int (x4)), (5, .int (x5)), (6, .int (x6)), (7, .int (x7))] [] ρ) : ∀ (n : Nat) (x0 : Nat) (x1 : Int32) (x2 : Nat) (x3 : Int32) (x4 : Int32) (x5 : Int32) (x6 : Int32) (x7 : Int32) (x8 : Int32) (x9 : Int32) (σ : tM), L_X8_find_104 b0 fu rc41 n x0 x1 x2 x3 x4 x5 x6 x7 x8 x9 σ = some (v, τ) → tX p l e s m args below meth c 10 2 47 D aC b0 σ0 (.inl (some (.int v))) τ 104 [(0, .ref (x0)), (1, .int (x1)), (2, .ref (x2)), (3, .int (x3)), (4, .int (x4)), (5, .int (x5)), (6, .int (x6)), (7, .int (x7)), (8, .int (x8)), (9, .int (x9))] [] σ := by
  intro n
  induction n with
  | zero => intro x0 x1 x2 x3 x4 x5 x6 x7 x8 x9 σ hm; unfold L_X8_find_104 at hm; cases hm
  | succ n ih =>
    intro x0 x1 x2 x3 x4 x5 x6 x7 x8 x9 σ hm
    unfold L_X8_find_104 at hm
    obtain ⟨rc104, hrc⟩ : ∃ z, z = L_X8_find_104 b0 fu rc41 n := ⟨_, rfl⟩
    replace hm := ltb_e hm hrc
    rw [← hrc] at ih
    have hrc104 := ih
    clear ih hrc
    refine zx_iload C dX8_find_104 9 rfl ?_
    refine zx_if_lt C 152 dX8_find_106 (by decide) (fun c26 => ?_) (fun c26 => ?_)
    · replace hm := ip_e hm c26
      exact zx_lv [0, 1, 2, 3, 4, 5, 6, 7, 9] [(0, .ref (x0)), (1, .int (x1)), (2, .ref (x2)), (3, .int (x3)), (4, .int (x4)), (5, .int (x5)), (6, .int (x6)), (7, .int (x7)), (9, .int (x9))] rfl (j_X8_find_152 C htab hin hrc41   hm)
    · replace hm := in_e hm c26
      refine zx_iload C dX8_find_109 9 rfl ?_
      refine zx_iload C dX8_find_111 4 rfl ?_
      refine zx_icmp_ge C 152 dX8_find_113 (by decide) (fun c29 => ?_) (fun c29 => ?_)
      · replace hm := ip_e hm c29
        exact zx_lv [0, 1, 2, 3, 4, 5, 6, 7, 9] [(0, .ref (x0)), (1, .int (x1)), (2, .ref (x2)), (3, .int (x3)), (4, .int (x4)), (5, .int (x5)), (6, .int (x6)), (7, .int (x7)), (9, .int (x9))] rfl (j_X8_find_152 C htab hin hrc41   hm)
      · replace hm := in_e hm c29
        refine zx_aload_n C dX8_find_116 0 rfl ?_
        obtain ⟨k30, i31, hm⟩ := ckO_e hm
        obtain ⟨a32, h33, hm⟩ := osm_e hm
        refine zx_get (j := 0) C tC_8 k30 i31 ⟨by decide, Or.inl W_1_163⟩ dX8_find_117 (.ref a32) (rf_s h33) ?_
        refine zx_iload C dX8_find_120 6 rfl ?_
        refine zx_iload C dX8_find_122 8 rfl ?_
        refine zx_iload C dX8_find_124 9 rfl ?_
        refine zx_iadd C dX8_find_126 ?_
        obtain ⟨k34, i35, hm⟩ := ckO_e hm
        obtain ⟨v36, ρ37, h38, hm⟩ := cll_e hm
        refine zx_callV (σ := σ) C [.int (x6), .int ((x8) + (x9))] tC_5 k34 i35 Y_X5_octet W_4_120 W_4_121 W_4_122 (c_X5_octet h38) (by decide) (by decide) rfl (Nat.le_of_ble_eq_true rfl) dX8_find_127 rfl ?_
        refine zx_aload_n C dX8_find_130 2 rfl ?_
        refine zx_iload_n C dX8_find_131 3 rfl ?_
        refine zx_iload C dX8_find_132 9 rfl ?_
        refine zx_iadd C dX8_find_134 ?_
        obtain ⟨n41, k39, i40, hm⟩ := ckR_e hm
        obtain ⟨h42, hm⟩ := ckI_e hm
        refine zx_bald C k39 i40 h42 dX8_find_135 ?_
        refine zx_icmp_ne C 146 dX8_find_136 (by decide) (fun c43 => ?_) (fun c43 => ?_)
        · replace hm := in_e hm c43
          refine zx_iconst (v := (-1)) C dX8_find_146 (by decide) ?_
          exact zx_lv [0, 1, 2, 3, 4, 5, 6, 7, 8] [(0, .ref (x0)), (1, .int (x1)), (2, .ref (x2)), (3, .int (x3)), (4, .int (x4)), (5, .int (x5)), (6, .int (x6)), (7, .int (x7)), (8, .int (x8))] rfl (j_X8_find_147 C htab hin hrc41 hrc104   hm)
        · replace hm := ip_e hm c43
          refine zx_iload C dX8_find_139 9 rfl ?_
          refine zx_iconst (v := 1) C dX8_find_141 (by decide) ?_
          refine zx_iadd C dX8_find_142 ?_
          refine zx_goto C 147 dX8_find_143 (by decide) ?_
          exact zx_lv [0, 1, 2, 3, 4, 5, 6, 7, 8] [(0, .ref (x0)), (1, .int (x1)), (2, .ref (x2)), (3, .int (x3)), (4, .int (x4)), (5, .int (x5)), (6, .int (x6)), (7, .int (x7)), (8, .int (x8))] rfl (j_X8_find_147 C htab hin hrc41 hrc104   hm)
set_option maxRecDepth 100000 in
set_option maxHeartbeats 1000000 in
theorem j_X8_find_102 {p : Program} {l : Launch} {e : Env} {s : State} {m : MethodId} {args : Array Value} {below : List Frame} {meth : Method} {c : Code} {D : va_G} {aC : Nat → ClassId} {b0 fu : Nat} {σ0 τ : tM} {v : Int32} {rc41 : Nat → Int32 → Nat → Int32 → Int32 → Int32 → Int32 → Int32 → tM → Option ((Int32) × tM)} (C : tCx p l s m args meth c yX8_find.cls cX8_find 10 (some .int) D aC b0 σ0) (htab : ∀ x ∈ c.exceptionTable.toList, False) (hin : meth.name = yX8_find.name) (hrc41 : ∀ (x0 : Nat) (x1 : Int32) (x2 : Nat) (x3 : Int32) (x4 : Int32) (x5 : Int32) (x6 : Int32) (x7 : Int32) (ρ : tM), rc41 x0 x1 x2 x3 x4 x5 x6 x7 ρ = some (v, τ) → tX p l e s m args below meth c 10 2 47 D aC b0 σ0 (.inl (some (.int v))) τ 41 [(0, .ref (x0)), (1, .int (x1)), (2, .ref (x2)), (3, .int (x3)), (4, .int (x4)), (5, .int (x5)), (6, .int (x6)), (7, .int (x7))] [] ρ) {x0 : Nat} {x1 : Int32} {x2 : Nat} {x3 : Int32} {x4 : Int32} {x5 : Int32} {x6 : Int32} {x7 : Int32} {x8 : Int32} {s0 : Int32} {σ : tM} (hm : J_X8_find_102 b0 fu rc41 x0 x1 x2 x3 x4 x5 x6 x7 x8 s0 σ = some (v, τ)) : tX p l e s m args below meth c 10 2 47 D aC b0 σ0 (.inl (some (.int v))) τ 102 [(0, .ref (x0)), (1, .int (x1)), (2, .ref (x2)), (3, .int (x3)), (4, .int (x4)), (5, .int (x5)), (6, .int (x6)), (7, .int (x7)), (8, .int (x8))] [.int (s0)] σ := by
  unfold J_X8_find_102 at hm
  refine zx_istore C [(9, .int (s0)), (0, .ref (x0)), (1, .int (x1)), (2, .ref (x2)), (3, .int (x3)), (4, .int (x4)), (5, .int (x5)), (6, .int (x6)), (7, .int (x7)), (8, .int (x8))] dX8_find_102 (by decide) rfl ?_
  exact zx_lv [1, 2, 3, 4, 5, 6, 7, 8, 9, 0] [(0, .ref (x0)), (1, .int (x1)), (2, .ref (x2)), (3, .int (x3)), (4, .int (x4)), (5, .int (x5)), (6, .int (x6)), (7, .int (x7)), (8, .int (x8)), (9, .int (s0))] rfl (l_X8_find_104 C htab hin hrc41 _ _ _ _ _ _ _ _ _ _ _ _ hm)
set_option maxRecDepth 100000 in
set_option maxHeartbeats 1000000 in
theorem j_X8_find_78 {p : Program} {l : Launch} {e : Env} {s : State} {m : MethodId} {args : Array Value} {below : List Frame} {meth : Method} {c : Code} {D : va_G} {aC : Nat → ClassId} {b0 fu : Nat} {σ0 τ : tM} {v : Int32} {rc41 : Nat → Int32 → Nat → Int32 → Int32 → Int32 → Int32 → Int32 → tM → Option ((Int32) × tM)} (C : tCx p l s m args meth c yX8_find.cls cX8_find 10 (some .int) D aC b0 σ0) (htab : ∀ x ∈ c.exceptionTable.toList, False) (hin : meth.name = yX8_find.name) (hrc41 : ∀ (x0 : Nat) (x1 : Int32) (x2 : Nat) (x3 : Int32) (x4 : Int32) (x5 : Int32) (x6 : Int32) (x7 : Int32) (ρ : tM), rc41 x0 x1 x2 x3 x4 x5 x6 x7 ρ = some (v, τ) → tX p l e s m args below meth c 10 2 47 D aC b0 σ0 (.inl (some (.int v))) τ 41 [(0, .ref (x0)), (1, .int (x1)), (2, .ref (x2)), (3, .int (x3)), (4, .int (x4)), (5, .int (x5)), (6, .int (x6)), (7, .int (x7))] [] ρ) {x0 : Nat} {x1 : Int32} {x2 : Nat} {x3 : Int32} {x4 : Int32} {x5 : Int32} {x6 : Int32} {x7 : Int32} {x8 : Int32} {σ : tM} (hm : J_X8_find_78 b0 fu rc41 x0 x1 x2 x3 x4 x5 x6 x7 x8 σ = some (v, τ)) : tX p l e s m args below meth c 10 2 47 D aC b0 σ0 (.inl (some (.int v))) τ 78 [(0, .ref (x0)), (1, .int (x1)), (2, .ref (x2)), (3, .int (x3)), (4, .int (x4)), (5, .int (x5)), (6, .int (x6)), (7, .int (x7)), (8, .int (x8))] [] σ := by
  unfold J_X8_find_78 at hm
  refine zx_aload_n C dX8_find_78 0 rfl ?_
  obtain ⟨k16, i17, hm⟩ := ckO_e hm
  obtain ⟨a18, h19, hm⟩ := osm_e hm
  refine zx_get (j := 0) C tC_8 k16 i17 ⟨by decide, Or.inl W_1_163⟩ dX8_find_79 (.ref a18) (rf_s h19) ?_
  refine zx_iload C dX8_find_82 6 rfl ?_
  refine zx_iload C dX8_find_84 8 rfl ?_
  refine zx_bipush (v := 28) C dX8_find_86 (by decide) ?_
  refine zx_iadd C dX8_find_88 ?_
  obtain ⟨k20, i21, hm⟩ := ckO_e hm
  obtain ⟨v22, ρ23, h24, hm⟩ := cll_e hm
  refine zx_callV (σ := σ) C [.int (x6), .int ((x8) + (28))] tC_5 k20 i21 Y_X5_octet W_4_120 W_4_121 W_4_122 (c_X5_octet h24) (by decide) (by decide) rfl (Nat.le_of_ble_eq_true rfl) dX8_find_89 rfl ?_
  refine zx_iload C dX8_find_92 4 rfl ?_
  refine zx_icmp_ne C 101 dX8_find_94 (by decide) (fun c25 => ?_) (fun c25 => ?_)
  · replace hm := in_e hm c25
    refine zx_iconst (v := (-1)) C dX8_find_101 (by decide) ?_
    exact zx_lv [0, 1, 2, 3, 4, 5, 6, 7, 8] [(0, .ref (x0)), (1, .int (x1)), (2, .ref (x2)), (3, .int (x3)), (4, .int (x4)), (5, .int (x5)), (6, .int (x6)), (7, .int (x7)), (8, .int (x8))] rfl (j_X8_find_102 C htab hin hrc41   hm)
  · replace hm := ip_e hm c25
    refine zx_iconst (v := 0) C dX8_find_97 (by decide) ?_
    refine zx_goto C 102 dX8_find_98 (by decide) ?_
    exact zx_lv [0, 1, 2, 3, 4, 5, 6, 7, 8] [(0, .ref (x0)), (1, .int (x1)), (2, .ref (x2)), (3, .int (x3)), (4, .int (x4)), (5, .int (x5)), (6, .int (x6)), (7, .int (x7)), (8, .int (x8))] rfl (j_X8_find_102 C htab hin hrc41   hm)
set_option maxRecDepth 100000 in
set_option maxHeartbeats 1000000 in
theorem l_X8_find_41 {p : Program} {l : Launch} {e : Env} {s : State} {m : MethodId} {args : Array Value} {below : List Frame} {meth : Method} {c : Code} {D : va_G} {aC : Nat → ClassId} {b0 fu : Nat} {σ0 τ : tM} {v : Int32}  (C : tCx p l s m args meth c yX8_find.cls cX8_find 10 (some .int) D aC b0 σ0) (htab : ∀ x ∈ c.exceptionTable.toList, False) (hin : meth.name = yX8_find.name)  : ∀ (n : Nat) (x0 : Nat) (x1 : Int32) (x2 : Nat) (x3 : Int32) (x4 : Int32) (x5 : Int32) (x6 : Int32) (x7 : Int32) (σ : tM), L_X8_find_41 b0 fu  n x0 x1 x2 x3 x4 x5 x6 x7 σ = some (v, τ) → tX p l e s m args below meth c 10 2 47 D aC b0 σ0 (.inl (some (.int v))) τ 41 [(0, .ref (x0)), (1, .int (x1)), (2, .ref (x2)), (3, .int (x3)), (4, .int (x4)), (5, .int (x5)), (6, .int (x6)), (7, .int (x7))] [] σ := by
  intro n
  induction n with
  | zero => intro x0 x1 x2 x3 x4 x5 x6 x7 σ hm; unfold L_X8_find_41 at hm; cases hm
  | succ n ih =>
    intro x0 x1 x2 x3 x4 x5 x6 x7 σ hm
    unfold L_X8_find_41 at hm
    obtain ⟨rc41, hrc⟩ : ∃ z, z = L_X8_find_41 b0 fu  n := ⟨_, rfl⟩
    replace hm := ltb_e hm hrc
    rw [← hrc] at ih
    have hrc41 := ih
    clear ih hrc
    refine zx_iload C dX8_find_41 7 rfl ?_
    refine zx_iload C dX8_find_43 5 rfl ?_
    refine zx_icmp_ge C 168 dX8_find_45 (by decide) (fun c13 => ?_) (fun c13 => ?_)
    · replace hm := ip_e hm c13
      refine zx_iconst (v := (-1)) C dX8_find_168 (by decide) ?_
      obtain ⟨rfl, rfl⟩ := ret_e hm
      exact zx_iret C rfl rfl rfl dX8_find_169
    · replace hm := in_e hm c13
      refine zx_iload C dX8_find_48 7 rfl ?_
      refine zx_bipush (v := 8) C dX8_find_50 (by decide) ?_
      refine zx_irem C dX8_find_52 (by decide) ?_
      refine zx_bipush (v := 32) C dX8_find_53 (by decide) ?_
      refine zx_imul C dX8_find_55 ?_
      refine zx_topi (fun y14 hy14 => ?_)
      replace hm := ltb_e hm hy14
      refine zx_istore C [(8, .int (y14)), (0, .ref (x0)), (1, .int (x1)), (2, .ref (x2)), (3, .int (x3)), (4, .int (x4)), (5, .int (x5)), (6, .int (x6)), (7, .int (x7))] dX8_find_56 (by decide) rfl ?_
      refine zx_iload C dX8_find_58 0 rfl ?_
      refine zx_if_ne C 78 dX8_find_60 (by decide) (fun c15 => ?_) (fun c15 => ?_)
      · replace hm := in_e hm c15
        exact zx_lv [1, 2, 3, 4, 5, 6, 7, 8, 0] [(0, .ref (x0)), (1, .int (x1)), (2, .ref (x2)), (3, .int (x3)), (4, .int (x4)), (5, .int (x5)), (6, .int (x6)), (7, .int (x7)), (8, .int (y14))] rfl (j_X8_find_78 C htab hin hrc41   hm)
      · replace hm := ip_e hm c15
        refine zx_aload_n C dX8_find_63 1 rfl ?_
        refine zx_iload_n C dX8_find_64 2 rfl ?_
        refine zx_iload C dX8_find_65 8 rfl ?_
        refine zx_bipush (v := 8) C dX8_find_67 (by decide) ?_
        refine zx_idiv C dX8_find_69 (by decide) ?_
        obtain ⟨k44, i45, hm⟩ := ckO_e hm
        obtain ⟨v46, ρ47, h48, hm⟩ := cll_e hm
        refine zx_callV (σ := σ) C [.int (x1), .int ((x7) / (8))] tC_8 k44 i45 Y_X8_pointer W_4_109 W_4_110 W_4_111 (c_X8_pointer h48) (by decide) (by decide) rfl (Nat.le_of_ble_eq_true rfl) dX8_find_70 rfl ?_
        obtain ⟨v49, ρ50, h51, hm⟩ := cll_e hm
        refine zx_callS (σ := ρ47) C [.long (v46)] Y_X8_cellOf W_4_117 W_4_118 (c_X8_cellOf h51) (by decide) (by decide) rfl (Nat.le_of_ble_eq_true rfl) dX8_find_73 rfl ?_
        refine zx_istore C [(6, .int (v49)), (8, .int (y14)), (0, .ref (x0)), (1, .int (x1)), (2, .ref (x2)), (3, .int (x3)), (4, .int (x4)), (5, .int (x5)), (7, .int (x7))] dX8_find_76 (by decide) rfl ?_
        exact zx_lv [2, 3, 4, 5, 6, 7, 0, 8, 1] [(0, .ref (x0)), (1, .int (x1)), (2, .ref (x2)), (3, .int (x3)), (4, .int (x4)), (5, .int (x5)), (6, .int (v49)), (7, .int (x7)), (8, .int (y14))] rfl (j_X8_find_78 C htab hin hrc41   hm)
set_option maxRecDepth 100000 in
set_option maxHeartbeats 1000000 in
theorem c_X8_find {l : Launch} {D : va_G} {aC : Nat → ClassId} {b0 fu : Nat} {a0 : Nat} {p0 : Int32} {p1 : Nat} {p2 : Int32} {p3 : Int32} {σ τ : tM} {v : Int32} (hm : m_X8_find b0 fu a0 p0 p1 p2 p3 σ = some (v, τ)) : tMt l D aC b0 yX8_find (Cond.code yX8_find cX8_find 10 (some .int)) 2 47 [.ref (a0), .int (p0), .ref (p1), .int (p2), .int (p3)] σ (.inl (some (.int v))) τ := by
  unfold m_X8_find at hm
  obtain ⟨hg, hm⟩ := grw_e hm
  refine tMt_of (n := 0) rfl (Nat.le_of_ble_eq_true rfl) hg ?_
  intro p e s m below meth c C htab hin
  refine zx_lv [0, 1, 2, 3, 4] [(0, .ref (a0)), (1, .int (p0)), (2, .ref (p1)), (3, .int (p2)), (4, .int (p3))] rfl ?_
  refine zx_iload C dX8_find_0 4 rfl ?_
  refine zx_iconst (v := 1) C dX8_find_2 (by decide) ?_
  refine zx_icmp_lt C 26 dX8_find_3 (by decide) (fun c1 => ?_) (fun c1 => ?_)
  · replace hm := ip_e hm c1
    exact zx_lv [] [] rfl (j_X8_find_26 C htab hin    hm)
  · replace hm := in_e hm c1
    refine zx_iload C dX8_find_6 4 rfl ?_
    refine zx_bipush (v := 28) C dX8_find_8 (by decide) ?_
    refine zx_icmp_gt C 26 dX8_find_10 (by decide) (fun c2 => ?_) (fun c2 => ?_)
    · replace hm := ip_e hm c2
      exact zx_lv [] [] rfl (j_X8_find_26 C htab hin    hm)
    · replace hm := in_e hm c2
      refine zx_iload_n C dX8_find_13 3 rfl ?_
      refine zx_if_lt C 26 dX8_find_14 (by decide) (fun c3 => ?_) (fun c3 => ?_)
      · replace hm := ip_e hm c3
        exact zx_lv [] [] rfl (j_X8_find_26 C htab hin    hm)
      · replace hm := in_e hm c3
        refine zx_iload_n C dX8_find_17 3 rfl ?_
        refine zx_aload_n C dX8_find_18 2 rfl ?_
        obtain ⟨n6, k4, i5, hm⟩ := ckR_e hm
        refine zx_alen C k4 (by decide) i5 dX8_find_19 ?_
        refine zx_iload C dX8_find_20 4 rfl ?_
        refine zx_isub C dX8_find_22 ?_
        refine zx_icmp_le C 28 dX8_find_23 (by decide) (fun c7 => ?_) (fun c7 => ?_)
        · replace hm := ip_e hm c7
          refine zx_aload_n C dX8_find_28 0 rfl ?_
          refine zx_iload_n C dX8_find_29 1 rfl ?_
          obtain ⟨k8, i9, hm⟩ := ckO_e hm
          obtain ⟨v10, ρ11, h12, hm⟩ := cll_e hm
          refine zx_callV (σ := σ) C [.int (p0)] tC_8 k8 i9 Y_X8_entries W_4_104 W_4_105 W_4_106 (c_X8_entries h12) (by decide) (by decide) rfl (Nat.le_of_ble_eq_true rfl) dX8_find_30 rfl ?_
          refine zx_istore C [(5, .int (v10)), (0, .ref (a0)), (1, .int (p0)), (2, .ref (p1)), (3, .int (p2)), (4, .int (p3))] dX8_find_33 (by decide) rfl ?_
          refine zx_iconst (v := 0) C dX8_find_35 (by decide) ?_
          refine zx_istore C [(6, .int (0)), (5, .int (v10)), (0, .ref (a0)), (1, .int (p0)), (2, .ref (p1)), (3, .int (p2)), (4, .int (p3))] dX8_find_36 (by decide) rfl ?_
          refine zx_iconst (v := 0) C dX8_find_38 (by decide) ?_
          refine zx_istore C [(7, .int (0)), (6, .int (0)), (5, .int (v10)), (0, .ref (a0)), (1, .int (p0)), (2, .ref (p1)), (3, .int (p2)), (4, .int (p3))] dX8_find_39 (by decide) rfl ?_
          exact zx_lv [3, 4, 5, 6, 7, 2, 1, 0] [(0, .ref (a0)), (1, .int (p0)), (2, .ref (p1)), (3, .int (p2)), (4, .int (p3)), (5, .int (v10)), (6, .int (0)), (7, .int (0))] rfl (l_X8_find_41 C htab hin  _ _ _ _ _ _ _ _ _ _ hm)
        · replace hm := in_e hm c7
          exact zx_lv [] [] rfl (j_X8_find_26 C htab hin    hm)
abbrev cX8_placeForEntry : ByteArray := prog_10_method_48_code
def yX8_placeForEntry : MethodName := ⟨"SyncTree$Tree", "placeForEntry", "(I)I"⟩
theorem Y_X8_placeForEntry : tY yX8_placeForEntry cX8_placeForEntry 4 (some .int) 1 := ⟨W_4_165, W_1_4, ⟨by decide +kernel, by decide +kernel⟩, by decide +kernel⟩
theorem dX8_placeForEntry_0 : decode cX8_placeForEntry 0 = .ok (.aload_n 0, 1) := by decide +kernel
theorem dX8_placeForEntry_1 : decode cX8_placeForEntry 1 = .ok (.iload_n 1, 1) := by decide +kernel
theorem dX8_placeForEntry_2 : decode cX8_placeForEntry 2 = .ok (.invokevirtual 169, 3) := by decide +kernel
theorem dX8_placeForEntry_5 : decode cX8_placeForEntry 5 = .ok (.istore_n 2, 1) := by decide +kernel
theorem dX8_placeForEntry_6 : decode cX8_placeForEntry 6 = .ok (.iconst 0, 1) := by decide +kernel
theorem dX8_placeForEntry_7 : decode cX8_placeForEntry 7 = .ok (.istore_n 3, 1) := by decide +kernel
theorem dX8_placeForEntry_8 : decode cX8_placeForEntry 8 = .ok (.iload_n 3, 1) := by decide +kernel
theorem dX8_placeForEntry_9 : decode cX8_placeForEntry 9 = .ok (.iload_n 2, 1) := by decide +kernel
theorem dX8_placeForEntry_10 : decode cX8_placeForEntry 10 = .ok (.if_icmp .ge 20, 3) := by decide +kernel
theorem dX8_placeForEntry_13 : decode cX8_placeForEntry 13 = .ok (.aload_n 0, 1) := by decide +kernel
theorem dX8_placeForEntry_14 : decode cX8_placeForEntry 14 = .ok (.iload_n 1, 1) := by decide +kernel
theorem dX8_placeForEntry_15 : decode cX8_placeForEntry 15 = .ok (.iload_n 3, 1) := by decide +kernel
theorem dX8_placeForEntry_16 : decode cX8_placeForEntry 16 = .ok (.invokevirtual 172, 3) := by decide +kernel
theorem dX8_placeForEntry_19 : decode cX8_placeForEntry 19 = .ok (.ifCond .ne 5, 3) := by decide +kernel
theorem dX8_placeForEntry_22 : decode cX8_placeForEntry 22 = .ok (.iload_n 3, 1) := by decide +kernel
theorem dX8_placeForEntry_23 : decode cX8_placeForEntry 23 = .ok (.ireturn, 1) := by decide +kernel
theorem dX8_placeForEntry_24 : decode cX8_placeForEntry 24 = .ok (.iinc 3 1, 3) := by decide +kernel
theorem dX8_placeForEntry_27 : decode cX8_placeForEntry 27 = .ok (.goto (-19), 3) := by decide +kernel
theorem dX8_placeForEntry_30 : decode cX8_placeForEntry 30 = .ok (.iload_n 2, 1) := by decide +kernel
theorem dX8_placeForEntry_31 : decode cX8_placeForEntry 31 = .ok (.ireturn, 1) := by decide +kernel
set_option maxRecDepth 100000 in
set_option maxHeartbeats 1000000 in
theorem l_X8_placeForEntry_8 {p : Program} {l : Launch} {e : Env} {s : State} {m : MethodId} {args : Array Value} {below : List Frame} {meth : Method} {c : Code} {D : va_G} {aC : Nat → ClassId} {b0 fu : Nat} {σ0 τ : tM} {v : Int32}  (C : tCx p l s m args meth c yX8_placeForEntry.cls cX8_placeForEntry 4 (some .int) D aC b0 σ0) (htab : ∀ x ∈ c.exceptionTable.toList, False) (hin : meth.name = yX8_placeForEntry.name)  : ∀ (n : Nat) (x0 : Nat) (x1 : Int32) (x2 : Int32) (x3 : Int32) (σ : tM), L_X8_placeForEntry_8 b0 fu  n x0 x1 x2 x3 σ = some (v, τ) → tX p l e s m args below meth c 4 3 69 D aC b0 σ0 (.inl (some (.int v))) τ 8 [(0, .ref (x0)), (1, .int (x1)), (2, .int (x2)), (3, .int (x3))] [] σ := by
  intro n
  induction n with
  | zero => intro x0 x1 x2 x3 σ hm; unfold L_X8_placeForEntry_8 at hm; cases hm
  | succ n ih =>
    intro x0 x1 x2 x3 σ hm
    unfold L_X8_placeForEntry_8 at hm
    obtain ⟨rc8, hrc⟩ : ∃ z, z = L_X8_placeForEntry_8 b0 fu  n := ⟨_, rfl⟩
    replace hm := ltb_e hm hrc
    rw [← hrc] at ih
    have hrc8 := ih
    clear ih hrc
    refine zx_iload_n C dX8_placeForEntry_8 3 rfl ?_
    refine zx_iload_n C dX8_placeForEntry_9 2 rfl ?_
    refine zx_icmp_ge C 30 dX8_placeForEntry_10 (by decide) (fun c6 => ?_) (fun c6 => ?_)
    · replace hm := ip_e hm c6
      refine zx_iload_n C dX8_placeForEntry_30 2 rfl ?_
      obtain ⟨rfl, rfl⟩ := ret_e hm
      exact zx_iret C rfl rfl rfl dX8_placeForEntry_31
    · replace hm := in_e hm c6
      refine zx_aload_n C dX8_placeForEntry_13 0 rfl ?_
      refine zx_iload_n C dX8_placeForEntry_14 1 rfl ?_
      refine zx_iload_n C dX8_placeForEntry_15 3 rfl ?_
      obtain ⟨k7, i8, hm⟩ := ckO_e hm
      obtain ⟨v9, ρ10, h11, hm⟩ := cll_e hm
      refine zx_callV (σ := σ) C [.int (x1), .int (x3)] tC_8 k7 i8 Y_X8_nameLength W_4_166 W_4_167 W_4_168 (c_X8_nameLength h11) (by decide) (by decide) rfl (Nat.le_of_ble_eq_true rfl) dX8_placeForEntry_16 rfl ?_
      refine zx_if_ne C 24 dX8_placeForEntry_19 (by decide) (fun c12 => ?_) (fun c12 => ?_)
      · replace hm := in_e hm c12
        obtain ⟨y13, hy13⟩ : ∃ z : Int32, z = (x3) + Int32.ofInt 1 := ⟨_, rfl⟩
        replace hm := ltb_e hm hy13
        refine zx_iinc C [(3, .int (y13)), (0, .ref (x0)), (1, .int (x1)), (2, .int (x2))] dX8_placeForEntry_24 3 rfl hy13.symm (by decide) rfl ?_
        refine zx_goto C 8 dX8_placeForEntry_27 (by decide) ?_
        exact zx_lv [1, 2, 3, 0] [(0, .ref (x0)), (1, .int (x1)), (2, .int (x2)), (3, .int (y13))] rfl (hrc8 _ _ _ _ _ hm)
      · replace hm := ip_e hm c12
        refine zx_iload_n C dX8_placeForEntry_22 3 rfl ?_
        obtain ⟨rfl, rfl⟩ := ret_e hm
        exact zx_iret C rfl rfl rfl dX8_placeForEntry_23
set_option maxRecDepth 100000 in
set_option maxHeartbeats 1000000 in
theorem c_X8_placeForEntry {l : Launch} {D : va_G} {aC : Nat → ClassId} {b0 fu : Nat} {a0 : Nat} {p0 : Int32} {σ τ : tM} {v : Int32} (hm : m_X8_placeForEntry b0 fu a0 p0 σ = some (v, τ)) : tMt l D aC b0 yX8_placeForEntry (Cond.code yX8_placeForEntry cX8_placeForEntry 4 (some .int)) 3 69 [.ref (a0), .int (p0)] σ (.inl (some (.int v))) τ := by
  unfold m_X8_placeForEntry at hm
  obtain ⟨hg, hm⟩ := grw_e hm
  refine tMt_of (n := 0) rfl (Nat.le_of_ble_eq_true rfl) hg ?_
  intro p e s m below meth c C htab hin
  refine zx_lv [0, 1] [(0, .ref (a0)), (1, .int (p0))] rfl ?_
  refine zx_aload_n C dX8_placeForEntry_0 0 rfl ?_
  refine zx_iload_n C dX8_placeForEntry_1 1 rfl ?_
  obtain ⟨k1, i2, hm⟩ := ckO_e hm
  obtain ⟨v3, ρ4, h5, hm⟩ := cll_e hm
  refine zx_callV (σ := σ) C [.int (p0)] tC_8 k1 i2 Y_X8_entries W_4_104 W_4_105 W_4_106 (c_X8_entries h5) (by decide) (by decide) rfl (Nat.le_of_ble_eq_true rfl) dX8_placeForEntry_2 rfl ?_
  refine zx_istore_n C [(2, .int (v3)), (0, .ref (a0)), (1, .int (p0))] dX8_placeForEntry_5 rfl (by decide) rfl ?_
  refine zx_iconst (v := 0) C dX8_placeForEntry_6 (by decide) ?_
  refine zx_istore_n C [(3, .int (0)), (2, .int (v3)), (0, .ref (a0)), (1, .int (p0))] dX8_placeForEntry_7 rfl (by decide) rfl ?_
  exact zx_lv [2, 3, 1, 0] [(0, .ref (a0)), (1, .int (p0)), (2, .int (v3)), (3, .int (0))] rfl (l_X8_placeForEntry_8 C htab hin  _ _ _ _ _ _ hm)
