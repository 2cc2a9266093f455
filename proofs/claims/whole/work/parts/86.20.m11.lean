abbrev cX8_countEntries : ByteArray := prog_10_method_42_code
def yX8_countEntries : MethodName := ⟨"SyncTree$Tree", "countEntries", "(I)I"⟩
theorem Y_X8_countEntries : tY yX8_countEntries cX8_countEntries 5 (some .int) 1 := ⟨W_5_98, W_1_4, ⟨by decide +kernel, by decide +kernel⟩, by decide +kernel⟩
theorem dX8_countEntries_0 : decode cX8_countEntries 0 = .ok (.iconst 0, 1) := by decide +kernel
theorem dX8_countEntries_1 : decode cX8_countEntries 1 = .ok (.istore_n 2, 1) := by decide +kernel
theorem dX8_countEntries_2 : decode cX8_countEntries 2 = .ok (.aload_n 0, 1) := by decide +kernel
theorem dX8_countEntries_3 : decode cX8_countEntries 3 = .ok (.iload_n 1, 1) := by decide +kernel
theorem dX8_countEntries_4 : decode cX8_countEntries 4 = .ok (.invokevirtual 169, 3) := by decide +kernel
theorem dX8_countEntries_7 : decode cX8_countEntries 7 = .ok (.istore_n 3, 1) := by decide +kernel
theorem dX8_countEntries_8 : decode cX8_countEntries 8 = .ok (.iconst 0, 1) := by decide +kernel
theorem dX8_countEntries_9 : decode cX8_countEntries 9 = .ok (.istore 4, 2) := by decide +kernel
theorem dX8_countEntries_11 : decode cX8_countEntries 11 = .ok (.iload 4, 2) := by decide +kernel
theorem dX8_countEntries_13 : decode cX8_countEntries 13 = .ok (.iload_n 3, 1) := by decide +kernel
theorem dX8_countEntries_14 : decode cX8_countEntries 14 = .ok (.if_icmp .ge 27, 3) := by decide +kernel
theorem dX8_countEntries_17 : decode cX8_countEntries 17 = .ok (.iload_n 2, 1) := by decide +kernel
theorem dX8_countEntries_18 : decode cX8_countEntries 18 = .ok (.aload_n 0, 1) := by decide +kernel
theorem dX8_countEntries_19 : decode cX8_countEntries 19 = .ok (.iload_n 1, 1) := by decide +kernel
theorem dX8_countEntries_20 : decode cX8_countEntries 20 = .ok (.iload 4, 2) := by decide +kernel
theorem dX8_countEntries_22 : decode cX8_countEntries 22 = .ok (.invokevirtual 172, 3) := by decide +kernel
theorem dX8_countEntries_25 : decode cX8_countEntries 25 = .ok (.ifCond .ne 7, 3) := by decide +kernel
theorem dX8_countEntries_28 : decode cX8_countEntries 28 = .ok (.iconst 0, 1) := by decide +kernel
theorem dX8_countEntries_29 : decode cX8_countEntries 29 = .ok (.goto 4, 3) := by decide +kernel
theorem dX8_countEntries_32 : decode cX8_countEntries 32 = .ok (.iconst 1, 1) := by decide +kernel
theorem dX8_countEntries_33 : decode cX8_countEntries 33 = .ok (.iadd, 1) := by decide +kernel
theorem dX8_countEntries_34 : decode cX8_countEntries 34 = .ok (.istore_n 2, 1) := by decide +kernel
theorem dX8_countEntries_35 : decode cX8_countEntries 35 = .ok (.iinc 4 1, 3) := by decide +kernel
theorem dX8_countEntries_38 : decode cX8_countEntries 38 = .ok (.goto (-27), 3) := by decide +kernel
theorem dX8_countEntries_41 : decode cX8_countEntries 41 = .ok (.iload_n 2, 1) := by decide +kernel
theorem dX8_countEntries_42 : decode cX8_countEntries 42 = .ok (.ireturn, 1) := by decide +kernel
set_option maxRecDepth 100000 in
set_option maxHeartbeats 1000000 in
theorem j_X8_countEntries_33 {p : Program} {l : Launch} {e : Env} {s : State} {m : MethodId} {args : Array Value} {below : List Frame} {meth : Method} {c : Code} {D : va_G} {aC : Nat → ClassId} {b0 fu : Nat} {σ0 τ : tM} {v : Int32} {rc11 : Nat → Int32 → Int32 → Int32 → Int32 → tM → Option ((Int32) × tM)} (C : tCx p l s m args meth c yX8_countEntries.cls cX8_countEntries 5 (some .int) D aC b0 σ0) (htab : ∀ x ∈ c.exceptionTable.toList, False) (hin : meth.name = yX8_countEntries.name) (hrc11 : ∀ (x0 : Nat) (x1 : Int32) (x2 : Int32) (x3 : Int32) (x4 : Int32) (ρ : tM), rc11 x0 x1 x2 x3 x4 ρ = some (v, τ) → tX p l e s m args below meth c 5 3 69 D aC b0 σ0 (.inl (some (.int v))) τ 11 [(0, .ref (x0)), (1, .int (x1)), (2, .int (x2)), (3, .int (x3)), (4, .int (x4))] [] ρ) {x0 : Nat} {x1 : Int32} {x3 : Int32} {x4 : Int32} {s0 : Int32} {s1 : Int32} {σ : tM} (hm : J_X8_countEntries_33 b0 fu rc11 x0 x1 x3 x4 s0 s1 σ = some (v, τ)) : tX p l e s m args below meth c 5 3 69 D aC b0 σ0 (.inl (some (.int v))) τ 33 [(0, .ref (x0)), (1, .int (x1)), (3, .int (x3)), (4, .int (x4))] [.int (s1), .int (s0)] σ := by
  unfold J_X8_countEntries_33 at hm
  refine zx_iadd C dX8_countEntries_33 ?_
  refine zx_topi (fun y13 hy13 => ?_)
  replace hm := ltb_e hm hy13
  refine zx_istore_n C [(2, .int (y13)), (0, .ref (x0)), (1, .int (x1)), (3, .int (x3)), (4, .int (x4))] dX8_countEntries_34 rfl (by decide) rfl ?_
  obtain ⟨y14, hy14⟩ : ∃ z : Int32, z = (x4) + Int32.ofInt 1 := ⟨_, rfl⟩
  replace hm := ltb_e hm hy14
  refine zx_iinc C [(4, .int (y14)), (2, .int (y13)), (0, .ref (x0)), (1, .int (x1)), (3, .int (x3))] dX8_countEntries_35 4 rfl hy14.symm (by decide) rfl ?_
  refine zx_goto C 11 dX8_countEntries_38 (by decide) ?_
  exact zx_lv [2, 3, 1, 4, 0] [(0, .ref (x0)), (1, .int (x1)), (2, .int (y13)), (3, .int (x3)), (4, .int (y14))] rfl (hrc11 _ _ _ _ _ _ hm)
set_option maxRecDepth 100000 in
set_option maxHeartbeats 1000000 in
theorem l_X8_countEntries_11 {p : Program} {l : Launch} {e : Env} {s : State} {m : MethodId} {args : Array Value} {below : List Frame} {meth : Method} {c : Code} {D : va_G} {aC : Nat → ClassId} {b0 fu : Nat} {σ0 τ : tM} {v : Int32}  (C : tCx p l s m args meth c yX8_countEntries.cls cX8_countEntries 5 (some .int) D aC b0 σ0) (htab : ∀ x ∈ c.exceptionTable.toList, False) (hin : meth.name = yX8_countEntries.name)  : ∀ (n : Nat) (x0 : Nat) (x1 : Int32) (x2 : Int32) (x3 : Int32) (x4 : Int32) (σ : tM), L_X8_countEntries_11 b0 fu  n x0 x1 x2 x3 x4 σ = some (v, τ) → tX p l e s m args below meth c 5 3 69 D aC b0 σ0 (.inl (some (.int v))) τ 11 [(0, .ref (x0)), (1, .int (x1)), (2, .int (x2)), (3, .int (x3)), (4, .int (x4))] [] σ := by
  intro n
  induction n with
  | zero => intro x0 x1 x2 x3 x4 σ hm; unfold L_X8_countEntries_11 at hm; cases hm
  | succ n ih =>
    intro x0 x1 x2 x3 x4 σ hm
    unfold L_X8_countEntries_11 at hm
    obtain ⟨rc11, hrc⟩ : ∃ z, z = L_X8_countEntries_11 b0 fu  n := ⟨_, rfl⟩
    replace hm := ltb_e hm hrc
    rw [← hrc] at ih
    have hrc11 := ih
    clear ih hrc
    refine zx_iload C dX8_countEntries_11 4 rfl ?_
    refine zx_iload_n C dX8_countEntries_13 3 rfl ?_
    refine zx_icmp_ge C 41 dX8_countEntries_14 (by decide) (fun c6 => ?_) (fun c6 => ?_)
    · replace hm := ip_e hm c6
      refine zx_iload_n C dX8_countEntries_41 2 rfl ?_
      obtain ⟨rfl, rfl⟩ := ret_e hm
      exact zx_iret C rfl rfl rfl dX8_countEntries_42
    · replace hm := in_e hm c6
      refine zx_iload_n C dX8_countEntries_17 2 rfl ?_
      refine zx_aload_n C dX8_countEntries_18 0 rfl ?_
      refine zx_iload_n C dX8_countEntries_19 1 rfl ?_
      refine zx_iload C dX8_countEntries_20 4 rfl ?_
      obtain ⟨k7, i8, hm⟩ := ckO_e hm
      obtain ⟨v9, ρ10, h11, hm⟩ := cll_e hm
      refine zx_callV (σ := σ) C [.int (x1), .int (x4)] tC_8 k7 i8 Y_X8_nameLength W_4_166 W_4_167 W_4_168 (c_X8_nameLength h11) (by decide) (by decide) rfl (Nat.le_of_ble_eq_true rfl) dX8_countEntries_22 rfl ?_
      refine zx_if_ne C 32 dX8_countEntries_25 (by decide) (fun c12 => ?_) (fun c12 => ?_)
      · replace hm := in_e hm c12
        refine zx_iconst (v := 1) C dX8_countEntries_32 (by decide) ?_
        exact zx_lv [0, 1, 3, 4] [(0, .ref (x0)), (1, .int (x1)), (3, .int (x3)), (4, .int (x4))] rfl (j_X8_countEntries_33 C htab hin hrc11   hm)
      · replace hm := ip_e hm c12
        refine zx_iconst (v := 0) C dX8_countEntries_28 (by decide) ?_
        refine zx_goto C 33 dX8_countEntries_29 (by decide) ?_
        exact zx_lv [0, 1, 3, 4] [(0, .ref (x0)), (1, .int (x1)), (3, .int (x3)), (4, .int (x4))] rfl (j_X8_countEntries_33 C htab hin hrc11   hm)
set_option maxRecDepth 100000 in
set_option maxHeartbeats 1000000 in
theorem c_X8_countEntries {l : Launch} {D : va_G} {aC : Nat → ClassId} {b0 fu : Nat} {a0 : Nat} {p0 : Int32} {σ τ : tM} {v : Int32} (hm : m_X8_countEntries b0 fu a0 p0 σ = some (v, τ)) : tMt l D aC b0 yX8_countEntries (Cond.code yX8_countEntries cX8_countEntries 5 (some .int)) 3 69 [.ref (a0), .int (p0)] σ (.inl (some (.int v))) τ := by
  unfold m_X8_countEntries at hm
  obtain ⟨hg, hm⟩ := grw_e hm
  refine tMt_of (n := 0) rfl (Nat.le_of_ble_eq_true rfl) hg ?_
  intro p e s m below meth c C htab hin
  refine zx_lv [0, 1] [(0, .ref (a0)), (1, .int (p0))] rfl ?_
  refine zx_iconst (v := 0) C dX8_countEntries_0 (by decide) ?_
  refine zx_istore_n C [(2, .int (0)), (0, .ref (a0)), (1, .int (p0))] dX8_countEntries_1 rfl (by decide) rfl ?_
  refine zx_aload_n C dX8_countEntries_2 1 rfl ?_
  refine zx_iload_n C dX8_countEntries_3 2 rfl ?_
  obtain ⟨k1, i2, hm⟩ := ckO_e hm
  obtain ⟨v3, ρ4, h5, hm⟩ := cll_e hm
  refine zx_callV (σ := σ) C [.int (p0)] tC_8 k1 i2 Y_X8_entries W_4_104 W_4_105 W_4_106 (c_X8_entries h5) (by decide) (by decide) rfl (Nat.le_of_ble_eq_true rfl) dX8_countEntries_4 rfl ?_
  refine zx_istore_n C [(3, .int (v3)), (2, .int (0)), (0, .ref (a0)), (1, .int (p0))] dX8_countEntries_7 rfl (by decide) rfl ?_
  refine zx_iconst (v := 0) C dX8_countEntries_8 (by decide) ?_
  refine zx_istore C [(4, .int (0)), (3, .int (v3)), (2, .int (0)), (0, .ref (a0)), (1, .int (p0))] dX8_countEntries_9 (by decide) rfl ?_
  exact zx_lv [3, 4, 2, 1, 0] [(0, .ref (a0)), (1, .int (p0)), (2, .int (0)), (3, .int (v3)), (4, .int (0))] rfl (l_X8_countEntries_11 C htab hin  _ _ _ _ _ _ _ hm)
abbrev cX8_findLast : ByteArray := prog_10_method_46_code
def yX8_findLast : MethodName := ⟨"SyncTree$Tree", "findLast", "(ILSyncTree$PathText;)I"⟩
theorem Y_X8_findLast : tY yX8_findLast cX8_findLast 3 (some .int) 2 := ⟨W_4_148, W_1_4, ⟨by decide +kernel, by decide +kernel⟩, by decide +kernel⟩
theorem dX8_findLast_0 : decode cX8_findLast 0 = .ok (.aload_n 0, 1) := by decide +kernel
theorem dX8_findLast_1 : decode cX8_findLast 1 = .ok (.iload_n 1, 1) := by decide +kernel
theorem dX8_findLast_2 : decode cX8_findLast 2 = .ok (.aload_n 2, 1) := by decide +kernel
theorem dX8_findLast_3 : decode cX8_findLast 3 = .ok (.getfield 76, 3) := by decide +kernel
theorem dX8_findLast_6 : decode cX8_findLast 6 = .ok (.aload_n 2, 1) := by decide +kernel
theorem dX8_findLast_7 : decode cX8_findLast 7 = .ok (.getfield 175, 3) := by decide +kernel
theorem dX8_findLast_10 : decode cX8_findLast 10 = .ok (.aload_n 2, 1) := by decide +kernel
theorem dX8_findLast_11 : decode cX8_findLast 11 = .ok (.getfield 178, 3) := by decide +kernel
theorem dX8_findLast_14 : decode cX8_findLast 14 = .ok (.invokevirtual 181, 3) := by decide +kernel
theorem dX8_findLast_17 : decode cX8_findLast 17 = .ok (.ireturn, 1) := by decide +kernel
set_option maxRecDepth 100000 in
set_option maxHeartbeats 1000000 in
theorem c_X8_findLast {l : Launch} {D : va_G} {aC : Nat → ClassId} {b0 fu : Nat} {a0 : Nat} {p0 : Int32} {p1 : Nat} {σ τ : tM} {v : Int32} (hm : m_X8_findLast b0 fu a0 p0 p1 σ = some (v, τ)) : tMt l D aC b0 yX8_findLast (Cond.code yX8_findLast cX8_findLast 3 (some .int)) 3 76 [.ref (a0), .int (p0), .ref (p1)] σ (.inl (some (.int v))) τ := by
  unfold m_X8_findLast at hm
  obtain ⟨hg, hm⟩ := grw_e hm
  refine tMt_of (n := 0) rfl (Nat.le_of_ble_eq_true rfl) hg ?_
  intro p e s m below meth c C htab hin
  refine zx_lv [0, 1, 2] [(0, .ref (a0)), (1, .int (p0)), (2, .ref (p1))] rfl ?_
  refine zx_aload_n C dX8_findLast_0 0 rfl ?_
  refine zx_iload_n C dX8_findLast_1 1 rfl ?_
  refine zx_aload_n C dX8_findLast_2 2 rfl ?_
  obtain ⟨k1, i2, hm⟩ := ckO_e hm
  obtain ⟨a3, h4, hm⟩ := osm_e hm
  refine zx_get (j := 0) C tC_3 k1 i2 ⟨by decide, Or.inr ⟨_, W_2_58⟩⟩ dX8_findLast_3 (.ref a3) (rf_s h4) ?_
  refine zx_aload_n C dX8_findLast_6 2 rfl ?_
  refine zx_get (j := 2) C tC_3 k1 i2 ⟨by decide, Or.inr ⟨_, W_2_65⟩⟩ dX8_findLast_7 (.int (tI (σ) (p1) 2)) rfl ?_
  refine zx_aload_n C dX8_findLast_10 2 rfl ?_
  refine zx_get (j := 3) C tC_3 k1 i2 ⟨by decide, Or.inr ⟨_, W_2_68⟩⟩ dX8_findLast_11 (.int (tI (σ) (p1) 3)) rfl ?_
  obtain ⟨k5, i6, hm⟩ := ckO_e hm
  obtain ⟨v7, ρ8, h9, hm⟩ := cll_e hm
  refine zx_callV (σ := σ) C [.int (p0), .ref (a3), .int (tI (σ) (p1) 2), .int (tI (σ) (p1) 3)] tC_8 k5 i6 Y_X8_find W_4_149 W_4_101 W_4_102 (c_X8_find h9) (by decide) (by decide) rfl (Nat.le_of_ble_eq_true rfl) dX8_findLast_14 rfl ?_
  obtain ⟨rfl, rfl⟩ := ret_e hm
  exact zx_iret C rfl rfl rfl dX8_findLast_17
abbrev cX8_addEntry : ByteArray := prog_10_method_50_code
def yX8_addEntry : MethodName := ⟨"SyncTree$Tree", "addEntry", "(ILSyncTree$PathText;I)V"⟩
theorem Y_X8_addEntry : tY yX8_addEntry cX8_addEntry 5 none 3 := ⟨W_4_198, W_1_4, ⟨by decide +kernel, by decide +kernel⟩, by decide +kernel⟩
theorem dX8_addEntry_0 : decode cX8_addEntry 0 = .ok (.aload_n 0, 1) := by decide +kernel
theorem dX8_addEntry_1 : decode cX8_addEntry 1 = .ok (.iload_n 1, 1) := by decide +kernel
theorem dX8_addEntry_2 : decode cX8_addEntry 2 = .ok (.invokevirtual 185, 3) := by decide +kernel
theorem dX8_addEntry_5 : decode cX8_addEntry 5 = .ok (.istore 4, 2) := by decide +kernel
theorem dX8_addEntry_7 : decode cX8_addEntry 7 = .ok (.iload 4, 2) := by decide +kernel
theorem dX8_addEntry_9 : decode cX8_addEntry 9 = .ok (.aload_n 0, 1) := by decide +kernel
theorem dX8_addEntry_10 : decode cX8_addEntry 10 = .ok (.iload_n 1, 1) := by decide +kernel
theorem dX8_addEntry_11 : decode cX8_addEntry 11 = .ok (.invokevirtual 169, 3) := by decide +kernel
theorem dX8_addEntry_14 : decode cX8_addEntry 14 = .ok (.if_icmp .lt 27, 3) := by decide +kernel
theorem dX8_addEntry_17 : decode cX8_addEntry 17 = .ok (.aload_n 0, 1) := by decide +kernel
theorem dX8_addEntry_18 : decode cX8_addEntry 18 = .ok (.iload_n 1, 1) := by decide +kernel
theorem dX8_addEntry_19 : decode cX8_addEntry 19 = .ok (.iload 4, 2) := by decide +kernel
theorem dX8_addEntry_21 : decode cX8_addEntry 21 = .ok (.bipush 8, 2) := by decide +kernel
theorem dX8_addEntry_23 : decode cX8_addEntry 23 = .ok (.idiv, 1) := by decide +kernel
theorem dX8_addEntry_24 : decode cX8_addEntry 24 = .ok (.invokevirtual 195, 3) := by decide +kernel
theorem dX8_addEntry_27 : decode cX8_addEntry 27 = .ok (.aload_n 0, 1) := by decide +kernel
theorem dX8_addEntry_28 : decode cX8_addEntry 28 = .ok (.iload_n 1, 1) := by decide +kernel
theorem dX8_addEntry_29 : decode cX8_addEntry 29 = .ok (.aload_n 0, 1) := by decide +kernel
theorem dX8_addEntry_30 : decode cX8_addEntry 30 = .ok (.iload_n 1, 1) := by decide +kernel
theorem dX8_addEntry_31 : decode cX8_addEntry 31 = .ok (.invokevirtual 53, 3) := by decide +kernel
theorem dX8_addEntry_34 : decode cX8_addEntry 34 = .ok (.sipush 256, 3) := by decide +kernel
theorem dX8_addEntry_37 : decode cX8_addEntry 37 = .ok (.iadd, 1) := by decide +kernel
theorem dX8_addEntry_38 : decode cX8_addEntry 38 = .ok (.invokevirtual 83, 3) := by decide +kernel
theorem dX8_addEntry_41 : decode cX8_addEntry 41 = .ok (.aload_n 0, 1) := by decide +kernel
theorem dX8_addEntry_42 : decode cX8_addEntry 42 = .ok (.iload_n 1, 1) := by decide +kernel
theorem dX8_addEntry_43 : decode cX8_addEntry 43 = .ok (.iload 4, 2) := by decide +kernel
theorem dX8_addEntry_45 : decode cX8_addEntry 45 = .ok (.aload_n 2, 1) := by decide +kernel
theorem dX8_addEntry_46 : decode cX8_addEntry 46 = .ok (.iload_n 3, 1) := by decide +kernel
theorem dX8_addEntry_47 : decode cX8_addEntry 47 = .ok (.invokevirtual 197, 3) := by decide +kernel
theorem dX8_addEntry_50 : decode cX8_addEntry 50 = .ok (.return_, 1) := by decide +kernel
set_option maxRecDepth 100000 in
set_option maxHeartbeats 1000000 in
theorem j_X8_addEntry_41 {p : Program} {l : Launch} {e : Env} {s : State} {m : MethodId} {args : Array Value} {below : List Frame} {meth : Method} {c : Code} {D : va_G} {aC : Nat → ClassId} {b0 fu : Nat} {σ0 τ : tM} {v : Unit}  (C : tCx p l s m args meth c yX8_addEntry.cls cX8_addEntry 5 none D aC b0 σ0) (htab : ∀ x ∈ c.exceptionTable.toList, False) (hin : meth.name = yX8_addEntry.name)  {x0 : Nat} {x1 : Int32} {x2 : Nat} {x3 : Int32} {x4 : Int32} {σ : tM} (hm : J_X8_addEntry_41 b0 fu  x0 x1 x2 x3 x4 σ = some (v, τ)) : tX p l e s m args below meth c 5 4 96 D aC b0 σ0 (.inl none) τ 41 [(0, .ref (x0)), (1, .int (x1)), (2, .ref (x2)), (3, .int (x3)), (4, .int (x4))] [] σ := by
  unfold J_X8_addEntry_41 at hm
  refine zx_aload_n C dX8_addEntry_41 0 rfl ?_
  refine zx_iload_n C dX8_addEntry_42 1 rfl ?_
  refine zx_iload C dX8_addEntry_43 4 rfl ?_
  refine zx_aload_n C dX8_addEntry_45 2 rfl ?_
  refine zx_iload_n C dX8_addEntry_46 3 rfl ?_
  obtain ⟨k12, i13, hm⟩ := ckO_e hm
  obtain ⟨v14, ρ15, h16, hm⟩ := cll_e hm
  refine zx_callV (σ := σ) C [.int (x1), .int (x4), .ref (x2), .int (x3)] tC_8 k12 i13 Y_X8_setEntry W_4_225 W_4_226 W_4_227 (c_X8_setEntry h16) (by decide) (by decide) rfl (Nat.le_of_ble_eq_true rfl) dX8_addEntry_47 rfl ?_
  obtain ⟨rfl, rfl⟩ := ret_e hm
  exact zx_vret C rfl rfl rfl dX8_addEntry_50
set_option maxRecDepth 100000 in
set_option maxHeartbeats 1000000 in
theorem c_X8_addEntry {l : Launch} {D : va_G} {aC : Nat → ClassId} {b0 fu : Nat} {a0 : Nat} {p0 : Int32} {p1 : Nat} {p2 : Int32} {σ τ : tM} {v : Unit} (hm : m_X8_addEntry b0 fu a0 p0 p1 p2 σ = some (v, τ)) : tMt l D aC b0 yX8_addEntry (Cond.code yX8_addEntry cX8_addEntry 5 none) 4 96 [.ref (a0), .int (p0), .ref (p1), .int (p2)] σ (.inl none) τ := by
  unfold m_X8_addEntry at hm
  obtain ⟨hg, hm⟩ := grw_e hm
  refine tMt_of (n := 0) rfl (Nat.le_of_ble_eq_true rfl) hg ?_
  intro p e s m below meth c C htab hin
  refine zx_lv [0, 1, 2, 3] [(0, .ref (a0)), (1, .int (p0)), (2, .ref (p1)), (3, .int (p2))] rfl ?_
  refine zx_aload_n C dX8_addEntry_0 0 rfl ?_
  refine zx_iload_n C dX8_addEntry_1 1 rfl ?_
  obtain ⟨k1, i2, hm⟩ := ckO_e hm
  obtain ⟨v3, ρ4, h5, hm⟩ := cll_e hm
  refine zx_callV (σ := σ) C [.int (p0)] tC_8 k1 i2 Y_X8_placeForEntry W_4_162 W_4_164 Wp_28 (c_X8_placeForEntry h5) (by decide) (by decide) rfl (Nat.le_of_ble_eq_true rfl) dX8_addEntry_2 rfl ?_
  refine zx_istore C [(4, .int (v3)), (0, .ref (a0)), (1, .int (p0)), (2, .ref (p1)), (3, .int (p2))] dX8_addEntry_5 (by decide) rfl ?_
  refine zx_iload C dX8_addEntry_7 0 rfl ?_
  refine zx_aload_n C dX8_addEntry_9 1 rfl ?_
  refine zx_iload_n C dX8_addEntry_10 2 rfl ?_
  obtain ⟨k6, i7, hm⟩ := ckO_e hm
  obtain ⟨v8, ρ9, h10, hm⟩ := cll_e hm
  refine zx_callV (σ := ρ4) C [.int (p0)] tC_8 k6 i7 Y_X8_entries W_4_104 W_4_105 W_4_106 (c_X8_entries h10) (by decide) (by decide) rfl (Nat.le_of_ble_eq_true rfl) dX8_addEntry_11 rfl ?_
  refine zx_icmp_lt C 41 dX8_addEntry_14 (by decide) (fun c11 => ?_) (fun c11 => ?_)
  · replace hm := ip_e hm c11
    exact zx_lv [1, 2, 3, 4, 0] [(0, .ref (a0)), (1, .int (p0)), (2, .ref (p1)), (3, .int (p2)), (4, .int (v3))] rfl (j_X8_addEntry_41 C htab hin    hm)
  · replace hm := in_e hm c11
    refine zx_aload_n C dX8_addEntry_17 1 rfl ?_
    refine zx_iload_n C dX8_addEntry_18 2 rfl ?_
    refine zx_iload C dX8_addEntry_19 0 rfl ?_
    refine zx_bipush (v := 8) C dX8_addEntry_21 (by decide) ?_
    refine zx_idiv C dX8_addEntry_23 (by decide) ?_
    obtain ⟨k17, i18, hm⟩ := ckO_e hm
    obtain ⟨v19, ρ20, h21, hm⟩ := cll_e hm
    refine zx_callV (σ := ρ9) C [.int (p0), .int ((v3) / (8))] tC_8 k17 i18 Y_X8_obtain W_4_199 W_4_200 W_4_201 (c_X8_obtain h21) (by decide) (by decide) rfl (Nat.le_of_ble_eq_true rfl) dX8_addEntry_24 rfl ?_
    refine zx_aload_n C dX8_addEntry_27 1 rfl ?_
    refine zx_iload_n C dX8_addEntry_28 2 rfl ?_
    refine zx_aload_n C dX8_addEntry_29 1 rfl ?_
    refine zx_iload_n C dX8_addEntry_30 2 rfl ?_
    obtain ⟨k22, i23, hm⟩ := ckO_e hm
    obtain ⟨v24, ρ25, h26, hm⟩ := cll_e hm
    refine zx_callV (σ := ρ20) C [.int (p0)] tC_8 k22 i23 Y_X8_size W_4_224 W_4_133 W_4_134 (c_X8_size h26) (by decide) (by decide) rfl (Nat.le_of_ble_eq_true rfl) dX8_addEntry_31 rfl ?_
    refine zx_sipush (v := 256) C dX8_addEntry_34 (by decide) ?_
    refine zx_iadd C dX8_addEntry_37 ?_
    obtain ⟨k27, i28, hm⟩ := ckO_e hm
    obtain ⟨v29, ρ30, h31, hm⟩ := cll_e hm
    refine zx_callV (σ := ρ25) C [.int (p0), .int ((v24) + (256))] tC_8 k27 i28 Y_X8_setSize W_4_186 W_4_188 Wp_29 (c_X8_setSize h31) (by decide) (by decide) rfl (Nat.le_of_ble_eq_true rfl) dX8_addEntry_38 rfl ?_
    exact zx_lv [1, 2, 3, 4, 0] [(0, .ref (a0)), (1, .int (p0)), (2, .ref (p1)), (3, .int (p2)), (4, .int (v3))] rfl (j_X8_addEntry_41 C htab hin    hm)
abbrev cX9_walk : ByteArray := prog_11_method_4_code
def yX9_walk : MethodName := ⟨"SyncTree$Walker", "walk", "(LSyncTree$PathText;IZ)I"⟩
theorem Y_X9_walk : tY yX9_walk cX9_walk 9 (some .int) 3 := ⟨W_4_76, W_1_7, ⟨by decide +kernel, by decide +kernel⟩, by decide +kernel⟩
theorem dX9_walk_0 : decode cX9_walk 0 = .ok (.aload_n 0, 1) := by decide +kernel
theorem dX9_walk_1 : decode cX9_walk 1 = .ok (.iconst 0, 1) := by decide +kernel
theorem dX9_walk_2 : decode cX9_walk 2 = .ok (.iload_n 2, 1) := by decide +kernel
theorem dX9_walk_3 : decode cX9_walk 3 = .ok (.bipush 120, 2) := by decide +kernel
theorem dX9_walk_5 : decode cX9_walk 5 = .ok (.invokestatic 42, 3) := by decide +kernel
theorem dX9_walk_8 : decode cX9_walk 8 = .ok (.invokestatic 48, 3) := by decide +kernel
theorem dX9_walk_11 : decode cX9_walk 11 = .ok (.putfield 51, 3) := by decide +kernel
theorem dX9_walk_14 : decode cX9_walk 14 = .ok (.aload_n 1, 1) := by decide +kernel
theorem dX9_walk_15 : decode cX9_walk 15 = .ok (.getfield 54, 3) := by decide +kernel
theorem dX9_walk_18 : decode cX9_walk 18 = .ok (.iconst 0, 1) := by decide +kernel
theorem dX9_walk_19 : decode cX9_walk 19 = .ok (.aload_n 0, 1) := by decide +kernel
theorem dX9_walk_20 : decode cX9_walk 20 = .ok (.getfield 11, 3) := by decide +kernel
theorem dX9_walk_23 : decode cX9_walk 23 = .ok (.iconst 0, 1) := by decide +kernel
theorem dX9_walk_24 : decode cX9_walk 24 = .ok (.aload_n 0, 1) := by decide +kernel
theorem dX9_walk_25 : decode cX9_walk 25 = .ok (.getfield 51, 3) := by decide +kernel
theorem dX9_walk_28 : decode cX9_walk 28 = .ok (.invokestatic 57, 3) := by decide +kernel
theorem dX9_walk_31 : decode cX9_walk 31 = .ok (.aload_n 0, 1) := by decide +kernel
theorem dX9_walk_32 : decode cX9_walk 32 = .ok (.iconst 0, 1) := by decide +kernel
theorem dX9_walk_33 : decode cX9_walk 33 = .ok (.putfield 63, 3) := by decide +kernel
theorem dX9_walk_36 : decode cX9_walk 36 = .ok (.aload_n 0, 1) := by decide +kernel
theorem dX9_walk_37 : decode cX9_walk 37 = .ok (.iconst 0, 1) := by decide +kernel
theorem dX9_walk_38 : decode cX9_walk 38 = .ok (.putfield 66, 3) := by decide +kernel
theorem dX9_walk_41 : decode cX9_walk 41 = .ok (.iconst 0, 1) := by decide +kernel
theorem dX9_walk_42 : decode cX9_walk 42 = .ok (.istore 4, 2) := by decide +kernel
theorem dX9_walk_44 : decode cX9_walk 44 = .ok (.iconst 0, 1) := by decide +kernel
theorem dX9_walk_45 : decode cX9_walk 45 = .ok (.istore 5, 2) := by decide +kernel
theorem dX9_walk_47 : decode cX9_walk 47 = .ok (.iload 5, 2) := by decide +kernel
theorem dX9_walk_49 : decode cX9_walk 49 = .ok (.sipush 2000, 3) := by decide +kernel
theorem dX9_walk_52 : decode cX9_walk 52 = .ok (.if_icmp .ge 155, 3) := by decide +kernel
theorem dX9_walk_55 : decode cX9_walk 55 = .ok (.aload_n 0, 1) := by decide +kernel
theorem dX9_walk_56 : decode cX9_walk 56 = .ok (.aload_n 0, 1) := by decide +kernel
theorem dX9_walk_57 : decode cX9_walk 57 = .ok (.aload_n 0, 1) := by decide +kernel
theorem dX9_walk_58 : decode cX9_walk 58 = .ok (.getfield 63, 3) := by decide +kernel
theorem dX9_walk_61 : decode cX9_walk 61 = .ok (.invokevirtual 69, 3) := by decide +kernel
theorem dX9_walk_64 : decode cX9_walk 64 = .ok (.putfield 63, 3) := by decide +kernel
theorem dX9_walk_67 : decode cX9_walk 67 = .ok (.aload_n 0, 1) := by decide +kernel
theorem dX9_walk_68 : decode cX9_walk 68 = .ok (.getfield 63, 3) := by decide +kernel
theorem dX9_walk_71 : decode cX9_walk 71 = .ok (.aload_n 0, 1) := by decide +kernel
theorem dX9_walk_72 : decode cX9_walk 72 = .ok (.getfield 51, 3) := by decide +kernel
theorem dX9_walk_75 : decode cX9_walk 75 = .ok (.if_icmp .lt 6, 3) := by decide +kernel
theorem dX9_walk_78 : decode cX9_walk 78 = .ok (.iload 4, 2) := by decide +kernel
theorem dX9_walk_80 : decode cX9_walk 80 = .ok (.ireturn, 1) := by decide +kernel
theorem dX9_walk_81 : decode cX9_walk 81 = .ok (.aload_n 0, 1) := by decide +kernel
theorem dX9_walk_82 : decode cX9_walk 82 = .ok (.getfield 63, 3) := by decide +kernel
theorem dX9_walk_85 : decode cX9_walk 85 = .ok (.istore 6, 2) := by decide +kernel
theorem dX9_walk_87 : decode cX9_walk 87 = .ok (.aload_n 0, 1) := by decide +kernel
theorem dX9_walk_88 : decode cX9_walk 88 = .ok (.aload_n 0, 1) := by decide +kernel
theorem dX9_walk_89 : decode cX9_walk 89 = .ok (.aload_n 0, 1) := by decide +kernel
theorem dX9_walk_90 : decode cX9_walk 90 = .ok (.getfield 63, 3) := by decide +kernel
theorem dX9_walk_93 : decode cX9_walk 93 = .ok (.invokevirtual 72, 3) := by decide +kernel
theorem dX9_walk_96 : decode cX9_walk 96 = .ok (.putfield 63, 3) := by decide +kernel
theorem dX9_walk_99 : decode cX9_walk 99 = .ok (.aload_n 0, 1) := by decide +kernel
theorem dX9_walk_100 : decode cX9_walk 100 = .ok (.iload 4, 2) := by decide +kernel
theorem dX9_walk_102 : decode cX9_walk 102 = .ok (.iload 6, 2) := by decide +kernel
theorem dX9_walk_104 : decode cX9_walk 104 = .ok (.aload_n 0, 1) := by decide +kernel
theorem dX9_walk_105 : decode cX9_walk 105 = .ok (.getfield 63, 3) := by decide +kernel
theorem dX9_walk_108 : decode cX9_walk 108 = .ok (.iload 6, 2) := by decide +kernel
theorem dX9_walk_110 : decode cX9_walk 110 = .ok (.isub, 1) := by decide +kernel
theorem dX9_walk_111 : decode cX9_walk 111 = .ok (.invokevirtual 75, 3) := by decide +kernel
theorem dX9_walk_114 : decode cX9_walk 114 = .ok (.istore 7, 2) := by decide +kernel
theorem dX9_walk_116 : decode cX9_walk 116 = .ok (.iload 7, 2) := by decide +kernel
theorem dX9_walk_118 : decode cX9_walk 118 = .ok (.ifCond .ge 6, 3) := by decide +kernel
theorem dX9_walk_121 : decode cX9_walk 121 = .ok (.iload 7, 2) := by decide +kernel
theorem dX9_walk_123 : decode cX9_walk 123 = .ok (.ireturn, 1) := by decide +kernel
theorem dX9_walk_124 : decode cX9_walk 124 = .ok (.aload_n 0, 1) := by decide +kernel
theorem dX9_walk_125 : decode cX9_walk 125 = .ok (.aload_n 0, 1) := by decide +kernel
theorem dX9_walk_126 : decode cX9_walk 126 = .ok (.getfield 63, 3) := by decide +kernel
theorem dX9_walk_129 : decode cX9_walk 129 = .ok (.invokevirtual 69, 3) := by decide +kernel
theorem dX9_walk_132 : decode cX9_walk 132 = .ok (.aload_n 0, 1) := by decide +kernel
theorem dX9_walk_133 : decode cX9_walk 133 = .ok (.getfield 51, 3) := by decide +kernel
theorem dX9_walk_136 : decode cX9_walk 136 = .ok (.if_icmp .lt 7, 3) := by decide +kernel
theorem dX9_walk_139 : decode cX9_walk 139 = .ok (.iconst 1, 1) := by decide +kernel
theorem dX9_walk_140 : decode cX9_walk 140 = .ok (.goto 4, 3) := by decide +kernel
theorem dX9_walk_143 : decode cX9_walk 143 = .ok (.iconst 0, 1) := by decide +kernel
theorem dX9_walk_144 : decode cX9_walk 144 = .ok (.istore 8, 2) := by decide +kernel
theorem dX9_walk_146 : decode cX9_walk 146 = .ok (.aload_n 0, 1) := by decide +kernel
theorem dX9_walk_147 : decode cX9_walk 147 = .ok (.getfield 15, 3) := by decide +kernel
theorem dX9_walk_150 : decode cX9_walk 150 = .ok (.iload 7, 2) := by decide +kernel
theorem dX9_walk_152 : decode cX9_walk 152 = .ok (.invokevirtual 36, 3) := by decide +kernel
theorem dX9_walk_155 : decode cX9_walk 155 = .ok (.iconst 3, 1) := by decide +kernel
theorem dX9_walk_156 : decode cX9_walk 156 = .ok (.if_icmp .ne 12, 3) := by decide +kernel
theorem dX9_walk_159 : decode cX9_walk 159 = .ok (.iload 8, 2) := by decide +kernel
theorem dX9_walk_161 : decode cX9_walk 161 = .ok (.ifCond .eq 14, 3) := by decide +kernel
theorem dX9_walk_164 : decode cX9_walk 164 = .ok (.iload_n 3, 1) := by decide +kernel
theorem dX9_walk_165 : decode cX9_walk 165 = .ok (.ifCond .ne 10, 3) := by decide +kernel
theorem dX9_walk_168 : decode cX9_walk 168 = .ok (.iload 7, 2) := by decide +kernel
theorem dX9_walk_170 : decode cX9_walk 170 = .ok (.istore 4, 2) := by decide +kernel
theorem dX9_walk_172 : decode cX9_walk 172 = .ok (.goto 29, 3) := by decide +kernel
theorem dX9_walk_175 : decode cX9_walk 175 = .ok (.aload_n 0, 1) := by decide +kernel
theorem dX9_walk_176 : decode cX9_walk 176 = .ok (.iload 7, 2) := by decide +kernel
theorem dX9_walk_178 : decode cX9_walk 178 = .ok (.invokevirtual 79, 3) := by decide +kernel
theorem dX9_walk_181 : decode cX9_walk 181 = .ok (.ifCond .ne 6, 3) := by decide +kernel
theorem dX9_walk_184 : decode cX9_walk 184 = .ok (.bipush (-8), 2) := by decide +kernel
theorem dX9_walk_186 : decode cX9_walk 186 = .ok (.ireturn, 1) := by decide +kernel
theorem dX9_walk_187 : decode cX9_walk 187 = .ok (.aload_n 0, 1) := by decide +kernel
theorem dX9_walk_188 : decode cX9_walk 188 = .ok (.getfield 11, 3) := by decide +kernel
theorem dX9_walk_191 : decode cX9_walk 191 = .ok (.iconst 0, 1) := by decide +kernel
theorem dX9_walk_192 : decode cX9_walk 192 = .ok (.baload, 1) := by decide +kernel
theorem dX9_walk_193 : decode cX9_walk 193 = .ok (.bipush 47, 2) := by decide +kernel
theorem dX9_walk_195 : decode cX9_walk 195 = .ok (.if_icmp .ne 6, 3) := by decide +kernel
theorem dX9_walk_198 : decode cX9_walk 198 = .ok (.iconst 0, 1) := by decide +kernel
theorem dX9_walk_199 : decode cX9_walk 199 = .ok (.istore 4, 2) := by decide +kernel
theorem dX9_walk_201 : decode cX9_walk 201 = .ok (.iinc 5 1, 3) := by decide +kernel
theorem dX9_walk_204 : decode cX9_walk 204 = .ok (.goto (-157), 3) := by decide +kernel
theorem dX9_walk_207 : decode cX9_walk 207 = .ok (.bipush (-8), 2) := by decide +kernel
theorem dX9_walk_209 : decode cX9_walk 209 = .ok (.ireturn, 1) := by decide +kernel
set_option maxRecDepth 100000 in
set_option maxHeartbeats 1000000 in
theorem j_X9_walk_201 {p : Program} {l : Launch} {e : Env} {s : State} {m : MethodId} {args : Array Value} {below : List Frame} {meth : Method} {c : Code} {D : va_G} {aC : Nat → ClassId} {b0 fu : Nat} {σ0 τ : tM} {v : Int32} {rc47 : Nat → Int32 → Int32 → Int32 → tM → Option ((Int32) × tM)} (C : tCx p l s m args meth c yX9_walk.cls cX9_walk 9 (some .int) D aC b0 σ0) (htab : ∀ x ∈ c.exceptionTable.toList, False) (hin : meth.name = yX9_walk.name) (hrc47 : ∀ (x0 : Nat) (x3 : Int32) (x4 : Int32) (x5 : Int32) (ρ : tM), rc47 x0 x3 x4 x5 ρ = some (v, τ) → tX p l e s m args below meth c 9 4 100 D aC b0 σ0 (.inl (some (.int v))) τ 47 [(0, .ref (x0)), (3, .int (x3)), (4, .int (x4)), (5, .int (x5))] [] ρ) {x0 : Nat} {x3 : Int32} {x4 : Int32} {x5 : Int32} {σ : tM} (hm : J_X9_walk_201 b0 fu rc47 x0 x3 x4 x5 σ = some (v, τ)) : tX p l e s m args below meth c 9 4 100 D aC b0 σ0 (.inl (some (.int v))) τ 201 [(0, .ref (x0)), (3, .int (x3)), (4, .int (x4)), (5, .int (x5))] [] σ := by
  unfold J_X9_walk_201 at hm
  obtain ⟨y63, hy63⟩ : ∃ z : Int32, z = (x5) + Int32.ofInt 1 := ⟨_, rfl⟩
  replace hm := ltb_e hm hy63
  refine zx_iinc C [(5, .int (y63)), (0, .ref (x0)), (3, .int (x3)), (4, .int (x4))] dX9_walk_201 3 rfl hy63.symm (by decide) rfl ?_
  refine zx_goto C 47 dX9_walk_204 (by decide) ?_
  exact zx_lv [1, 2, 3, 0] [(0, .ref (x0)), (3, .int (x3)), (4, .int (x4)), (5, .int (y63))] rfl (hrc47 _ _ _ _ _ hm)
set_option maxRecDepth 100000 in
set_option maxHeartbeats 1000000 in
theorem j_X9_walk_168 {p : Program} {l : Launch} {e : Env} {s : State} {m : MethodId} {args : Array Value} {below : List Frame} {meth : Method} {c : Code} {D : va_G} {aC : Nat → ClassId} {b0 fu : Nat} {σ0 τ : tM} {v : Int32} {rc47 : Nat → Int32 → Int32 → Int32 → tM → Option ((Int32) × tM)} (C : tCx p l s m args meth c yX9_walk.cls cX9_walk 9 (some .int) D aC b0 σ0) (htab : ∀ x ∈ c.exceptionTable.toList, False) (hin : meth.name = yX9_walk.name) (hrc47 : ∀ (x0 : Nat) (x3 : Int32) (x4 : Int32) (x5 : Int32) (ρ : tM), rc47 x0 x3 x4 x5 ρ = some (v, τ) → tX p l e s m args below meth c 9 4 100 D aC b0 σ0 (.inl (some (.int v))) τ 47 [(0, .ref (x0)), (3, .int (x3)), (4, .int (x4)), (5, .int (x5))] [] ρ) {x0 : Nat} {x3 : Int32} {x5 : Int32} {x7 : Int32} {σ : tM} (hm : J_X9_walk_168 b0 fu rc47 x0 x3 x5 x7 σ = some (v, τ)) : tX p l e s m args below meth c 9 4 100 D aC b0 σ0 (.inl (some (.int v))) τ 168 [(0, .ref (x0)), (3, .int (x3)), (5, .int (x5)), (7, .int (x7))] [] σ := by
  unfold J_X9_walk_168 at hm
  refine zx_iload C dX9_walk_168 3 rfl ?_
  refine zx_istore C [(4, .int (x7)), (0, .ref (x0)), (3, .int (x3)), (5, .int (x5)), (7, .int (x7))] dX9_walk_170 (by decide) rfl ?_
  refine zx_goto C 201 dX9_walk_172 (by decide) ?_
  exact zx_lv [1, 2, 0, 3] [(0, .ref (x0)), (3, .int (x3)), (4, .int (x7)), (5, .int (x5))] rfl (j_X9_walk_201 C htab hin hrc47   hm)
set_option maxRecDepth 100000 in
set_option maxHeartbeats 1000000 in
theorem j_X9_walk_175 {p : Program} {l : Launch} {e : Env} {s : State} {m : MethodId} {args : Array Value} {below : List Frame} {meth : Method} {c : Code} {D : va_G} {aC : Nat → ClassId} {b0 fu : Nat} {σ0 τ : tM} {v : Int32} {rc47 : Nat → Int32 → Int32 → Int32 → tM → Option ((Int32) × tM)} (C : tCx p l s m args meth c yX9_walk.cls cX9_walk 9 (some .int) D aC b0 σ0) (htab : ∀ x ∈ c.exceptionTable.toList, False) (hin : meth.name = yX9_walk.name) (hrc47 : ∀ (x0 : Nat) (x3 : Int32) (x4 : Int32) (x5 : Int32) (ρ : tM), rc47 x0 x3 x4 x5 ρ = some (v, τ) → tX p l e s m args below meth c 9 4 100 D aC b0 σ0 (.inl (some (.int v))) τ 47 [(0, .ref (x0)), (3, .int (x3)), (4, .int (x4)), (5, .int (x5))] [] ρ) {x0 : Nat} {x3 : Int32} {x4 : Int32} {x5 : Int32} {x7 : Int32} {σ : tM} (hm : J_X9_walk_175 b0 fu rc47 x0 x3 x4 x5 x7 σ = some (v, τ)) : tX p l e s m args below meth c 9 4 100 D aC b0 σ0 (.inl (some (.int v))) τ 175 [(0, .ref (x0)), (3, .int (x3)), (4, .int (x4)), (5, .int (x5)), (7, .int (x7))] [] σ := by
  unfold J_X9_walk_175 at hm
  refine zx_aload_n C dX9_walk_175 0 rfl ?_
  refine zx_iload C dX9_walk_176 4 rfl ?_
  obtain ⟨k65, i66, hm⟩ := ckO_e hm
  obtain ⟨v67, ρ68, h69, hm⟩ := cll_e hm
  refine zx_callV (σ := σ) C [.int (x7)] tC_9 k65 i66 Y_X9_standIn W_4_128 W_4_130 Wp_26 (c_X9_standIn h69) (by decide) (by decide) rfl (Nat.le_of_ble_eq_true rfl) dX9_walk_178 rfl ?_
  refine zx_if_ne C 187 dX9_walk_181 (by decide) (fun c70 => ?_) (fun c70 => ?_)
  · replace hm := in_e hm c70
    refine zx_aload_n C dX9_walk_187 0 rfl ?_
    obtain ⟨k71, i72, hm⟩ := ckO_e hm
    obtain ⟨a73, h74, hm⟩ := osm_e hm
    refine zx_get (j := 1) C tC_9 k71 i72 ⟨by decide, Or.inl W_2_21⟩ dX9_walk_188 (.ref a73) (rf_s h74) ?_
    refine zx_iconst (v := 0) C dX9_walk_191 (by decide) ?_
    obtain ⟨n77, k75, i76, hm⟩ := ckR_e hm
    obtain ⟨h78, hm⟩ := ckI_e hm
    refine zx_bald C k75 i76 h78 dX9_walk_192 ?_
    refine zx_bipush (v := 47) C dX9_walk_193 (by decide) ?_
    refine zx_icmp_ne C 201 dX9_walk_195 (by decide) (fun c79 => ?_) (fun c79 => ?_)
    · replace hm := in_e hm c79
      exact zx_lv [0, 1, 2, 3] [(0, .ref (x0)), (3, .int (x3)), (4, .int (x4)), (5, .int (x5))] rfl (j_X9_walk_201 C htab hin hrc47   hm)
    · replace hm := ip_e hm c79
      refine zx_iconst (v := 0) C dX9_walk_198 (by decide) ?_
      refine zx_istore C [(4, .int (0)), (0, .ref (x0)), (3, .int (x3)), (5, .int (x5)), (7, .int (x7))] dX9_walk_199 (by decide) rfl ?_
      exact zx_lv [1, 2, 0, 3] [(0, .ref (x0)), (3, .int (x3)), (4, .int (0)), (5, .int (x5))] rfl (j_X9_walk_201 C htab hin hrc47   hm)
  · replace hm := ip_e hm c70
    refine zx_bipush (v := (-8)) C dX9_walk_184 (by decide) ?_
    obtain ⟨rfl, rfl⟩ := ret_e hm
    exact zx_iret C rfl rfl rfl dX9_walk_186
set_option maxRecDepth 100000 in
set_option maxHeartbeats 1000000 in
theorem j_X9_walk_144 {p : Program} {l : Launch} {e : Env} {s : State} {m : MethodId} {args : Array Value} {below : List Frame} {meth : Method} {c : Code} {D : va_G} {aC : Nat → ClassId} {b0 fu : Nat} {σ0 τ : tM} {v : Int32} {rc47 : Nat → Int32 → Int32 → Int32 → tM → Option ((Int32) × tM)} (C : tCx p l s m args meth c yX9_walk.cls cX9_walk 9 (some .int) D aC b0 σ0) (htab : ∀ x ∈ c.exceptionTable.toList, False) (hin : meth.name = yX9_walk.name) (hrc47 : ∀ (x0 : Nat) (x3 : Int32) (x4 : Int32) (x5 : Int32) (ρ : tM), rc47 x0 x3 x4 x5 ρ = some (v, τ) → tX p l e s m args below meth c 9 4 100 D aC b0 σ0 (.inl (some (.int v))) τ 47 [(0, .ref (x0)), (3, .int (x3)), (4, .int (x4)), (5, .int (x5))] [] ρ) {x0 : Nat} {x3 : Int32} {x4 : Int32} {x5 : Int32} {x7 : Int32} {s0 : Int32} {σ : tM} (hm : J_X9_walk_144 b0 fu rc47 x0 x3 x4 x5 x7 s0 σ = some (v, τ)) : tX p l e s m args below meth c 9 4 100 D aC b0 σ0 (.inl (some (.int v))) τ 144 [(0, .ref (x0)), (3, .int (x3)), (4, .int (x4)), (5, .int (x5)), (7, .int (x7))] [.int (s0)] σ := by
  unfold J_X9_walk_144 at hm
  refine zx_istore C [(8, .int (s0)), (0, .ref (x0)), (3, .int (x3)), (4, .int (x4)), (5, .int (x5)), (7, .int (x7))] dX9_walk_144 (by decide) rfl ?_
  refine zx_aload_n C dX9_walk_146 1 rfl ?_
  obtain ⟨k53, i54, hm⟩ := ckO_e hm
  obtain ⟨a55, h56, hm⟩ := osm_e hm
  refine zx_get (j := 0) C tC_9 k53 i54 ⟨by decide, Or.inl W_2_20⟩ dX9_walk_147 (.ref a55) (rf_s h56) ?_
  refine zx_iload C dX9_walk_150 5 rfl ?_
  obtain ⟨k57, i58, hm⟩ := ckO_e hm
  obtain ⟨v59, ρ60, h61, hm⟩ := cll_e hm
  refine zx_callV (σ := σ) C [.int (x7)] tC_8 k57 i58 Y_X8_kind W_4_92 W_3_80 W_3_81 (c_X8_kind h61) (by decide) (by decide) rfl (Nat.le_of_ble_eq_true rfl) dX9_walk_152 rfl ?_
  refine zx_iconst (v := 3) C dX9_walk_155 (by decide) ?_
  refine zx_icmp_ne C 168 dX9_walk_156 (by decide) (fun c62 => ?_) (fun c62 => ?_)
  · replace hm := in_e hm c62
    exact zx_lv [1, 2, 4, 5] [(0, .ref (x0)), (3, .int (x3)), (5, .int (x5)), (7, .int (x7))] rfl (j_X9_walk_168 C htab hin hrc47   hm)
  · replace hm := ip_e hm c62
    refine zx_iload C dX9_walk_159 0 rfl ?_
    refine zx_if_eq C 175 dX9_walk_161 (by decide) (fun c64 => ?_) (fun c64 => ?_)
    · replace hm := ip_e hm c64
      exact zx_lv [1, 2, 3, 4, 5] [(0, .ref (x0)), (3, .int (x3)), (4, .int (x4)), (5, .int (x5)), (7, .int (x7))] rfl (j_X9_walk_175 C htab hin hrc47   hm)
    · replace hm := in_e hm c64
      refine zx_iload_n C dX9_walk_164 2 rfl ?_
      refine zx_if_ne C 175 dX9_walk_165 (by decide) (fun c80 => ?_) (fun c80 => ?_)
      · replace hm := in_e hm c80
        exact zx_lv [1, 2, 3, 4, 5] [(0, .ref (x0)), (3, .int (x3)), (4, .int (x4)), (5, .int (x5)), (7, .int (x7))] rfl (j_X9_walk_175 C htab hin hrc47   hm)
      · replace hm := ip_e hm c80
        exact zx_lv [1, 2, 4, 5] [(0, .ref (x0)), (3, .int (x3)), (5, .int (x5)), (7, .int (x7))] rfl (j_X9_walk_168 C htab hin hrc47   hm)
set_option maxRecDepth 100000 in
set_option maxHeartbeats 1000000 in
theorem l_X9_walk_47 {p : Program} {l : Launch} {e : Env} {s : State} {m : MethodId} {args : Array Value} {below : List Frame} {meth : Method} {c : Code} {D : va_G} {aC : Nat → ClassId} {b0 fu : Nat} {σ0 τ : tM} {v : Int32}  (C : tCx p l s m args meth c yX9_walk.cls cX9_walk 9 (some .int) D aC b0 σ0) (htab : ∀ x ∈ c.exceptionTable.toList, False) (hin : meth.name = yX9_walk.name)  : ∀ (n : Nat) (x0 : Nat) (x3 : Int32) (x4 : Int32) (x5 : Int32) (σ : tM), L_X9_walk_47 b0 fu  n x0 x3 x4 x5 σ = some (v, τ) → tX p l e s m args below meth c 9 4 100 D aC b0 σ0 (.inl (some (.int v))) τ 47 [(0, .ref (x0)), (3, .int (x3)), (4, .int (x4)), (5, .int (x5))] [] σ := by
  intro n
  induction n with
  | zero => intro x0 x3 x4 x5 σ hm; unfold L_X9_walk_47 at hm; cases hm
  | succ n ih =>
    intro x0 x3 x4 x5 σ hm
    unfold L_X9_walk_47 at hm
    obtain ⟨rc47, hrc⟩ : ∃ z, z = L_X9_walk_47 b0 fu  n := ⟨_, rfl⟩
    replace hm := ltb_e hm hrc
    rw [← hrc] at ih
    have hrc47 := ih
    clear ih hrc
    refine zx_iload C dX9_walk_47 3 rfl ?_
    refine zx_sipush (v := 2000) C dX9_walk_49 (by decide) ?_
    refine zx_icmp_ge C 207 dX9_walk_52 (by decide) (fun c26 => ?_) (fun c26 => ?_)
    · replace hm := ip_e hm c26
      refine zx_bipush (v := (-8)) C dX9_walk_207 (by decide) ?_
      obtain ⟨rfl, rfl⟩ := ret_e hm
      exact zx_iret C rfl rfl rfl dX9_walk_209
    · replace hm := in_e hm c26
      refine zx_aload_n C dX9_walk_55 0 rfl ?_
      refine zx_aload_n C dX9_walk_56 0 rfl ?_
      refine zx_aload_n C dX9_walk_57 0 rfl ?_
      obtain ⟨k27, i28, hm⟩ := ckO_e hm
      refine zx_get (j := 2) C tC_9 k27 i28 ⟨by decide, Or.inl W_2_22⟩ dX9_walk_58 (.int (tI (σ) (x0) 2)) rfl ?_
      obtain ⟨v29, ρ30, h31, hm⟩ := cll_e hm
      refine zx_callV (σ := σ) C [.int (tI (σ) (x0) 2)] tC_9 k27 i28 Y_X9_endOfSlashes W_4_80 W_4_82 Wp_22 (c_X9_endOfSlashes h31) (by decide) (by decide) rfl (Nat.le_of_ble_eq_true rfl) dX9_walk_61 rfl ?_
      obtain ⟨k32, i33, hm⟩ := ckO_e hm
      refine zx_put (j := 2) (ρ := sI (ρ30) (x0) 2 (v29)) C tC_9 k32 i33 ⟨by decide, Or.inl W_2_22⟩ rfl rfl rfl (sI_ok (fun _ => rfl)) dX9_walk_64 ?_
      refine zx_aload_n C dX9_walk_67 0 rfl ?_
      refine zx_get (j := 2) C tC_9 k32 i33 ⟨by decide, Or.inl W_2_22⟩ dX9_walk_68 (.int (tI (sI (ρ30) (x0) 2 (v29)) (x0) 2)) rfl ?_
      refine zx_aload_n C dX9_walk_71 0 rfl ?_
      refine zx_get (j := 3) C tC_9 k32 i33 ⟨by decide, Or.inl W_2_23⟩ dX9_walk_72 (.int (tI (sI (ρ30) (x0) 2 (v29)) (x0) 3)) rfl ?_
      refine zx_icmp_lt C 81 dX9_walk_75 (by decide) (fun c34 => ?_) (fun c34 => ?_)
      · replace hm := ip_e hm c34
        refine zx_aload_n C dX9_walk_81 0 rfl ?_
        refine zx_get (j := 2) C tC_9 k32 i33 ⟨by decide, Or.inl W_2_22⟩ dX9_walk_82 (.int (tI (sI (ρ30) (x0) 2 (v29)) (x0) 2)) rfl ?_
        refine zx_topi (fun y35 hy35 => ?_)
        replace hm := ltb_e hm hy35
        refine zx_istore C [(6, .int (y35)), (0, .ref (x0)), (3, .int (x3)), (4, .int (x4)), (5, .int (x5))] dX9_walk_85 (by decide) rfl ?_
        refine zx_aload_n C dX9_walk_87 1 rfl ?_
        refine zx_aload_n C dX9_walk_88 1 rfl ?_
        refine zx_aload_n C dX9_walk_89 1 rfl ?_
        refine zx_get (j := 2) C tC_9 k32 i33 ⟨by decide, Or.inl W_2_22⟩ dX9_walk_90 (.int (tI (sI (ρ30) (x0) 2 (v29)) (x0) 2)) rfl ?_
        obtain ⟨v36, ρ37, h38, hm⟩ := cll_e hm
        refine zx_callV (σ := sI (ρ30) (x0) 2 (v29)) C [.int (tI (sI (ρ30) (x0) 2 (v29)) (x0) 2)] tC_9 k32 i33 Y_X9_endOfName W_4_84 W_4_86 Wp_23 (c_X9_endOfName h38) (by decide) (by decide) rfl (Nat.le_of_ble_eq_true rfl) dX9_walk_93 rfl ?_
        obtain ⟨k39, i40, hm⟩ := ckO_e hm
        refine zx_put (j := 2) (ρ := sI (ρ37) (x0) 2 (v36)) C tC_9 k39 i40 ⟨by decide, Or.inl W_2_22⟩ rfl rfl rfl (sI_ok (fun _ => rfl)) dX9_walk_96 ?_
        refine zx_aload_n C dX9_walk_99 1 rfl ?_
        refine zx_iload C dX9_walk_100 3 rfl ?_
        refine zx_iload C dX9_walk_102 0 rfl ?_
        refine zx_aload_n C dX9_walk_104 1 rfl ?_
        refine zx_get (j := 2) C tC_9 k39 i40 ⟨by decide, Or.inl W_2_22⟩ dX9_walk_105 (.int (tI (sI (ρ37) (x0) 2 (v36)) (x0) 2)) rfl ?_
        refine zx_iload C dX9_walk_108 0 rfl ?_
        refine zx_isub C dX9_walk_110 ?_
        obtain ⟨v41, ρ42, h43, hm⟩ := cll_e hm
        refine zx_callV (σ := sI (ρ37) (x0) 2 (v36)) C [.int (x4), .int (y35), .int ((tI (sI (ρ37) (x0) 2 (v36)) (x0) 2) - (y35))] tC_9 k39 i40 Y_X9_look W_4_88 W_4_90 Wp_24 (c_X9_look h43) (by decide) (by decide) rfl (Nat.le_of_ble_eq_true rfl) dX9_walk_111 rfl ?_
        refine zx_istore C [(7, .int (v41)), (6, .int (y35)), (0, .ref (x0)), (3, .int (x3)), (4, .int (x4)), (5, .int (x5))] dX9_walk_114 (by decide) rfl ?_
        refine zx_iload C dX9_walk_116 0 rfl ?_
        refine zx_if_ge C 124 dX9_walk_118 (by decide) (fun c44 => ?_) (fun c44 => ?_)
        · replace hm := ip_e hm c44
          refine zx_aload_n C dX9_walk_124 2 rfl ?_
          refine zx_aload_n C dX9_walk_125 2 rfl ?_
          obtain ⟨k45, i46, hm⟩ := ckO_e hm
          refine zx_get (j := 2) C tC_9 k45 i46 ⟨by decide, Or.inl W_2_22⟩ dX9_walk_126 (.int (tI (ρ42) (x0) 2)) rfl ?_
          obtain ⟨v47, ρ48, h49, hm⟩ := cll_e hm
          refine zx_callV (σ := ρ42) C [.int (tI (ρ42) (x0) 2)] tC_9 k45 i46 Y_X9_endOfSlashes W_4_80 W_4_82 Wp_22 (c_X9_endOfSlashes h49) (by decide) (by decide) rfl (Nat.le_of_ble_eq_true rfl) dX9_walk_129 rfl ?_
          refine zx_aload_n C dX9_walk_132 2 rfl ?_
          obtain ⟨k50, i51, hm⟩ := ckO_e hm
          refine zx_get (j := 3) C tC_9 k50 i51 ⟨by decide, Or.inl W_2_23⟩ dX9_walk_133 (.int (tI (ρ48) (x0) 3)) rfl ?_
          refine zx_icmp_lt C 143 dX9_walk_136 (by decide) (fun c52 => ?_) (fun c52 => ?_)
          · replace hm := ip_e hm c52
            refine zx_iconst (v := 0) C dX9_walk_143 (by decide) ?_
            exact zx_lv [2, 3, 4, 5, 0] [(0, .ref (x0)), (3, .int (x3)), (4, .int (x4)), (5, .int (x5)), (7, .int (v41))] rfl (j_X9_walk_144 C htab hin hrc47   hm)
          · replace hm := in_e hm c52
            refine zx_iconst (v := 1) C dX9_walk_139 (by decide) ?_
            refine zx_goto C 144 dX9_walk_140 (by decide) ?_
            exact zx_lv [2, 3, 4, 5, 0] [(0, .ref (x0)), (3, .int (x3)), (4, .int (x4)), (5, .int (x5)), (7, .int (v41))] rfl (j_X9_walk_144 C htab hin hrc47   hm)
        · replace hm := in_e hm c44
          refine zx_iload C dX9_walk_121 0 rfl ?_
          obtain ⟨rfl, rfl⟩ := ret_e hm
          exact zx_iret C rfl rfl rfl dX9_walk_123
      · replace hm := in_e hm c34
        refine zx_iload C dX9_walk_78 2 rfl ?_
        obtain ⟨rfl, rfl⟩ := ret_e hm
        exact zx_iret C rfl rfl rfl dX9_walk_80
set_option maxRecDepth 100000 in
set_option maxHeartbeats 1000000 in
theorem c_X9_walk {l : Launch} {D : va_G} {aC : Nat → ClassId} {b0 fu : Nat} {a0 : Nat} {p0 : Nat} {p1 : Int32} {p2 : Int32} {σ τ : tM} {v : Int32} (hm : m_X9_walk b0 fu a0 p0 p1 p2 σ = some (v, τ)) : tMt l D aC b0 yX9_walk (Cond.code yX9_walk cX9_walk 9 (some .int)) 4 100 [.ref (a0), .ref (p0), .int (p1), .int (p2)] σ (.inl (some (.int v))) τ := by
  unfold m_X9_walk at hm
  obtain ⟨hg, hm⟩ := grw_e hm
  refine tMt_of (n := 0) rfl (Nat.le_of_ble_eq_true rfl) hg ?_
  intro p e s m below meth c C htab hin
  refine zx_lv [0, 1, 2, 3] [(0, .ref (a0)), (1, .ref (p0)), (2, .int (p1)), (3, .int (p2))] rfl ?_
  refine zx_aload_n C dX9_walk_0 0 rfl ?_
  refine zx_iconst (v := 0) C dX9_walk_1 (by decide) ?_
  refine zx_iload_n C dX9_walk_2 2 rfl ?_
  refine zx_bipush (v := 120) C dX9_walk_3 (by decide) ?_
  refine zx_min C W_4_77 W_2_106 W_1_10 W_2_107 (by decide) (by decide) (Nat.le_of_ble_eq_true rfl) dX9_walk_5 ?_
  refine zx_max C W_4_78 W_2_109 W_1_10 W_2_110 (by decide) (by decide) (Nat.le_of_ble_eq_true rfl) dX9_walk_8 ?_
  obtain ⟨k1, i2, hm⟩ := ckO_e hm
  refine zx_put (j := 3) (ρ := sI (σ) (a0) 3 ((if ((0 : Int32)) < ((if ((120 : Int32)) < (p1) then (120) else (p1) : Int32)) then ((if ((120 : Int32)) < (p1) then (120) else (p1) : Int32)) else (0) : Int32))) C tC_9 k1 i2 ⟨by decide, Or.inl W_2_23⟩ rfl rfl rfl (sI_ok (fun _ => rfl)) dX9_walk_11 ?_
  refine zx_aload_n C dX9_walk_14 1 rfl ?_
  obtain ⟨k3, i4, hm⟩ := ckO_e hm
  obtain ⟨a5, h6, hm⟩ := osm_e hm
  refine zx_get (j := 0) C tC_3 k3 i4 ⟨by decide, Or.inr ⟨_, W_2_57⟩⟩ dX9_walk_15 (.ref a5) (rf_s h6) ?_
  refine zx_iconst (v := 0) C dX9_walk_18 (by decide) ?_
  refine zx_aload_n C dX9_walk_19 0 rfl ?_
  obtain ⟨a7, h8, hm⟩ := osm_e hm
  refine zx_get (j := 1) C tC_9 k1 i2 ⟨by decide, Or.inl W_2_21⟩ dX9_walk_20 (.ref a7) (rf_s h8) ?_
  refine zx_iconst (v := 0) C dX9_walk_23 (by decide) ?_
  refine zx_aload_n C dX9_walk_24 0 rfl ?_
  refine zx_get (j := 3) C tC_9 k1 i2 ⟨by decide, Or.inl W_2_23⟩ dX9_walk_25 (.int (tI (sI (σ) (a0) 3 ((if ((0 : Int32)) < ((if ((120 : Int32)) < (p1) then (120) else (p1) : Int32)) then ((if ((120 : Int32)) < (p1) then (120) else (p1) : Int32)) else (0) : Int32))) (a0) 3)) rfl ?_
  obtain ⟨n11, k9, i10, hm⟩ := ckR_e hm
  obtain ⟨n14, k12, i13, hm⟩ := ckR_e hm
  obtain ⟨h15, hm⟩ := ckC_e hm
  obtain ⟨h81, hm⟩ := ckF_e hm
  refine zx_copyB (σ := sI (σ) (a0) 3 ((if ((0 : Int32)) < ((if ((120 : Int32)) < (p1) then (120) else (p1) : Int32)) then ((if ((120 : Int32)) < (p1) then (120) else (p1) : Int32)) else (0) : Int32))) C W_4_79 W_2_135 W_2_134 W_1_11 k9 i10 k12 i13 h15 h81 (by decide) (by decide) (Nat.le_of_ble_eq_true rfl) dX9_walk_28 ?_
  refine zx_mem (fun ρ17 hρ17 => ?_)
  replace hm := ltb_e hm hρ17
  have k18 : tk ρ17 (a0) = .inl 9 := by rw [hρ17]; exact k1
  have i19 : tIn b0 ρ17 (a0) := by rw [hρ17]; exact i2
  have k20 : tk ρ17 (p0) = .inl 3 := by rw [hρ17]; exact k3
  have i21 : tIn b0 ρ17 (p0) := by rw [hρ17]; exact i4
  have k22 : tk ρ17 (a5) = .inr (1, n11) := by rw [hρ17]; exact k9
  have i23 : tIn b0 ρ17 (a5) := by rw [hρ17]; exact i10
  have k24 : tk ρ17 (a7) = .inr (1, n14) := by rw [hρ17]; exact k12
  have i25 : tIn b0 ρ17 (a7) := by rw [hρ17]; exact i13
  refine zx_aload_n C dX9_walk_31 0 rfl ?_
  refine zx_iconst (v := 0) C dX9_walk_32 (by decide) ?_
  refine zx_put (j := 2) (ρ := sI (ρ17) (a0) 2 (0)) C tC_9 k18 i19 ⟨by decide, Or.inl W_2_22⟩ rfl rfl rfl (sI_ok (fun _ => rfl)) dX9_walk_33 ?_
  refine zx_aload_n C dX9_walk_36 0 rfl ?_
  refine zx_iconst (v := 0) C dX9_walk_37 (by decide) ?_
  refine zx_put (j := 4) (ρ := sI (sI (ρ17) (a0) 2 (0)) (a0) 4 (0)) C tC_9 k18 i19 ⟨by decide, Or.inl W_2_24⟩ rfl rfl rfl (sI_ok (fun _ => rfl)) dX9_walk_38 ?_
  refine zx_iconst (v := 0) C dX9_walk_41 (by decide) ?_
  refine zx_istore C [(4, .int (0)), (0, .ref (a0)), (1, .ref (p0)), (2, .int (p1)), (3, .int (p2))] dX9_walk_42 (by decide) rfl ?_
  refine zx_iconst (v := 0) C dX9_walk_44 (by decide) ?_
  refine zx_istore C [(5, .int (0)), (4, .int (0)), (0, .ref (a0)), (1, .ref (p0)), (2, .int (p1)), (3, .int (p2))] dX9_walk_45 (by decide) rfl ?_
  exact zx_lv [2, 5, 1, 0] [(0, .ref (a0)), (3, .int (p2)), (4, .int (0)), (5, .int (0))] rfl (l_X9_walk_47 C htab hin  _ _ _ _ _ _ hm)
abbrev cX10_path : ByteArray := prog_1_method_5_code
def yX10_path : MethodName := ⟨"SyncTree", "path", "(II)I"⟩
theorem Y_X10_path : tY yX10_path cX10_path 4 (some .int) 2 := ⟨W_3_23, W_1_1, ⟨by decide +kernel, by decide +kernel⟩, by decide +kernel⟩
theorem dX10_path_0 : decode cX10_path 0 = .ok (.iload_n 1, 1) := by decide +kernel
theorem dX10_path_1 : decode cX10_path 1 = .ok (.ifCond .eq 8, 3) := by decide +kernel
theorem dX10_path_4 : decode cX10_path 4 = .ok (.iload_n 1, 1) := by decide +kernel
theorem dX10_path_5 : decode cX10_path 5 = .ok (.iconst 1, 1) := by decide +kernel
theorem dX10_path_6 : decode cX10_path 6 = .ok (.if_icmp .ne 18, 3) := by decide +kernel
theorem dX10_path_9 : decode cX10_path 9 = .ok (.aload_n 0, 1) := by decide +kernel
theorem dX10_path_10 : decode cX10_path 10 = .ok (.getfield 62, 3) := by decide +kernel
theorem dX10_path_13 : decode cX10_path 13 = .ok (.iload_n 2, 1) := by decide +kernel
theorem dX10_path_14 : decode cX10_path 14 = .ok (.invokevirtual 119, 3) := by decide +kernel
theorem dX10_path_17 : decode cX10_path 17 = .ok (.ifCond .eq 7, 3) := by decide +kernel
theorem dX10_path_20 : decode cX10_path 20 = .ok (.iconst 1, 1) := by decide +kernel
theorem dX10_path_21 : decode cX10_path 21 = .ok (.goto 4, 3) := by decide +kernel
theorem dX10_path_24 : decode cX10_path 24 = .ok (.iconst 0, 1) := by decide +kernel
theorem dX10_path_25 : decode cX10_path 25 = .ok (.istore_n 3, 1) := by decide +kernel
theorem dX10_path_26 : decode cX10_path 26 = .ok (.iload_n 3, 1) := by decide +kernel
theorem dX10_path_27 : decode cX10_path 27 = .ok (.ifCond .eq 22, 3) := by decide +kernel
theorem dX10_path_30 : decode cX10_path 30 = .ok (.iload_n 1, 1) := by decide +kernel
theorem dX10_path_31 : decode cX10_path 31 = .ok (.ifCond .ne 18, 3) := by decide +kernel
theorem dX10_path_34 : decode cX10_path 34 = .ok (.aload_n 0, 1) := by decide +kernel
theorem dX10_path_35 : decode cX10_path 35 = .ok (.getfield 69, 3) := by decide +kernel
theorem dX10_path_38 : decode cX10_path 38 = .ok (.aload_n 0, 1) := by decide +kernel
theorem dX10_path_39 : decode cX10_path 39 = .ok (.getfield 62, 3) := by decide +kernel
theorem dX10_path_42 : decode cX10_path 42 = .ok (.iload_n 2, 1) := by decide +kernel
theorem dX10_path_43 : decode cX10_path 43 = .ok (.invokevirtual 123, 3) := by decide +kernel
theorem dX10_path_46 : decode cX10_path 46 = .ok (.goto 19, 3) := by decide +kernel
theorem dX10_path_49 : decode cX10_path 49 = .ok (.iload_n 3, 1) := by decide +kernel
theorem dX10_path_50 : decode cX10_path 50 = .ok (.ifCond .eq 15, 3) := by decide +kernel
theorem dX10_path_53 : decode cX10_path 53 = .ok (.aload_n 0, 1) := by decide +kernel
theorem dX10_path_54 : decode cX10_path 54 = .ok (.getfield 73, 3) := by decide +kernel
theorem dX10_path_57 : decode cX10_path 57 = .ok (.aload_n 0, 1) := by decide +kernel
theorem dX10_path_58 : decode cX10_path 58 = .ok (.getfield 62, 3) := by decide +kernel
theorem dX10_path_61 : decode cX10_path 61 = .ok (.iload_n 2, 1) := by decide +kernel
theorem dX10_path_62 : decode cX10_path 62 = .ok (.invokevirtual 123, 3) := by decide +kernel
theorem dX10_path_65 : decode cX10_path 65 = .ok (.aload_n 0, 1) := by decide +kernel
theorem dX10_path_66 : decode cX10_path 66 = .ok (.getfield 62, 3) := by decide +kernel
theorem dX10_path_69 : decode cX10_path 69 = .ok (.invokevirtual 98, 3) := by decide +kernel
theorem dX10_path_72 : decode cX10_path 72 = .ok (.iload_n 3, 1) := by decide +kernel
theorem dX10_path_73 : decode cX10_path 73 = .ok (.ifCond .eq 7, 3) := by decide +kernel
theorem dX10_path_76 : decode cX10_path 76 = .ok (.iload_n 2, 1) := by decide +kernel
theorem dX10_path_77 : decode cX10_path 77 = .ok (.goto 5, 3) := by decide +kernel
theorem dX10_path_80 : decode cX10_path 80 = .ok (.bipush (-9), 2) := by decide +kernel
theorem dX10_path_82 : decode cX10_path 82 = .ok (.ireturn, 1) := by decide +kernel
set_option maxRecDepth 100000 in
set_option maxHeartbeats 1000000 in
theorem j_X10_path_82 {p : Program} {l : Launch} {e : Env} {s : State} {m : MethodId} {args : Array Value} {below : List Frame} {meth : Method} {c : Code} {D : va_G} {aC : Nat → ClassId} {b0 fu : Nat} {σ0 τ : tM} {v : Int32}  (C : tCx p l s m args meth c yX10_path.cls cX10_path 4 (some .int) D aC b0 σ0) (htab : ∀ x ∈ c.exceptionTable.toList, False) (hin : meth.name = yX10_path.name)  {s0 : Int32} {σ : tM} (hm : J_X10_path_82 b0 fu  s0 σ = some (v, τ)) : tX p l e s m args below meth c 4 2 44 D aC b0 σ0 (.inl (some (.int v))) τ 82 [] [.int (s0)] σ := by
  unfold J_X10_path_82 at hm
  obtain ⟨rfl, rfl⟩ := ret_e hm
  exact zx_iret C rfl rfl rfl dX10_path_82
set_option maxRecDepth 100000 in
set_option maxHeartbeats 1000000 in
theorem j_X10_path_65 {p : Program} {l : Launch} {e : Env} {s : State} {m : MethodId} {args : Array Value} {below : List Frame} {meth : Method} {c : Code} {D : va_G} {aC : Nat → ClassId} {b0 fu : Nat} {σ0 τ : tM} {v : Int32}  (C : tCx p l s m args meth c yX10_path.cls cX10_path 4 (some .int) D aC b0 σ0) (htab : ∀ x ∈ c.exceptionTable.toList, False) (hin : meth.name = yX10_path.name)  {x0 : Nat} {x2 : Int32} {x3 : Int32} {σ : tM} (hm : J_X10_path_65 b0 fu  x0 x2 x3 σ = some (v, τ)) : tX p l e s m args below meth c 4 2 44 D aC b0 σ0 (.inl (some (.int v))) τ 65 [(0, .ref (x0)), (2, .int (x2)), (3, .int (x3))] [] σ := by
  unfold J_X10_path_65 at hm
  refine zx_aload_n C dX10_path_65 0 rfl ?_
  obtain ⟨k14, i15, hm⟩ := ckO_e hm
  obtain ⟨a16, h17, hm⟩ := osm_e hm
  refine zx_get (j := 6) C tC_10 k14 i15 ⟨by decide, Or.inl W_2_219⟩ dX10_path_66 (.ref a16) (rf_s h17) ?_
  obtain ⟨k18, i19, hm⟩ := ckO_e hm
  obtain ⟨v20, ρ21, h22, hm⟩ := cll_e hm
  refine zx_callV (σ := σ) C [] tC_6 k18 i19 Y_X6_useUp W_2_202 W_2_203 W_2_204 (c_X6_useUp h22) (by decide) (by decide) rfl (Nat.le_of_ble_eq_true rfl) dX10_path_69 rfl ?_
  refine zx_iload_n C dX10_path_72 2 rfl ?_
  refine zx_if_eq C 80 dX10_path_73 (by decide) (fun c23 => ?_) (fun c23 => ?_)
  · replace hm := ip_e hm c23
    refine zx_bipush (v := (-9)) C dX10_path_80 (by decide) ?_
    exact zx_lv [] [] rfl (j_X10_path_82 C htab hin    hm)
  · replace hm := in_e hm c23
    refine zx_iload_n C dX10_path_76 1 rfl ?_
    refine zx_goto C 82 dX10_path_77 (by decide) ?_
    exact zx_lv [] [] rfl (j_X10_path_82 C htab hin    hm)
set_option maxRecDepth 100000 in
set_option maxHeartbeats 1000000 in
theorem j_X10_path_49 {p : Program} {l : Launch} {e : Env} {s : State} {m : MethodId} {args : Array Value} {below : List Frame} {meth : Method} {c : Code} {D : va_G} {aC : Nat → ClassId} {b0 fu : Nat} {σ0 τ : tM} {v : Int32}  (C : tCx p l s m args meth c yX10_path.cls cX10_path 4 (some .int) D aC b0 σ0) (htab : ∀ x ∈ c.exceptionTable.toList, False) (hin : meth.name = yX10_path.name)  {x0 : Nat} {x2 : Int32} {x3 : Int32} {σ : tM} (hm : J_X10_path_49 b0 fu  x0 x2 x3 σ = some (v, τ)) : tX p l e s m args below meth c 4 2 44 D aC b0 σ0 (.inl (some (.int v))) τ 49 [(0, .ref (x0)), (2, .int (x2)), (3, .int (x3))] [] σ := by
  unfold J_X10_path_49 at hm
  refine zx_iload_n C dX10_path_49 2 rfl ?_
  refine zx_if_eq C 65 dX10_path_50 (by decide) (fun c13 => ?_) (fun c13 => ?_)
  · replace hm := ip_e hm c13
    exact zx_lv [0, 1, 2] [(0, .ref (x0)), (2, .int (x2)), (3, .int (x3))] rfl (j_X10_path_65 C htab hin    hm)
  · replace hm := in_e hm c13
    refine zx_aload_n C dX10_path_53 0 rfl ?_
    obtain ⟨k24, i25, hm⟩ := ckO_e hm
    obtain ⟨a26, h27, hm⟩ := osm_e hm
    refine zx_get (j := 8) C tC_10 k24 i25 ⟨by decide, Or.inl W_2_221⟩ dX10_path_54 (.ref a26) (rf_s h27) ?_
    refine zx_aload_n C dX10_path_57 0 rfl ?_
    obtain ⟨a28, h29, hm⟩ := osm_e hm
    refine zx_get (j := 6) C tC_10 k24 i25 ⟨by decide, Or.inl W_2_219⟩ dX10_path_58 (.ref a28) (rf_s h29) ?_
    refine zx_iload_n C dX10_path_61 1 rfl ?_
    obtain ⟨k30, i31, hm⟩ := ckO_e hm
    obtain ⟨v32, ρ33, h34, hm⟩ := cll_e hm
    refine zx_callV (σ := σ) C [.ref (a28), .int (x2)] tC_3 k30 i31 Y_X3_take W_3_28 W_3_29 W_3_30 (c_X3_take h34) (by decide) (by decide) rfl (Nat.le_of_ble_eq_true rfl) dX10_path_62 rfl ?_
    exact zx_lv [0, 1, 2] [(0, .ref (x0)), (2, .int (x2)), (3, .int (x3))] rfl (j_X10_path_65 C htab hin    hm)
set_option maxRecDepth 100000 in
set_option maxHeartbeats 1000000 in
theorem j_X10_path_25 {p : Program} {l : Launch} {e : Env} {s : State} {m : MethodId} {args : Array Value} {below : List Frame} {meth : Method} {c : Code} {D : va_G} {aC : Nat → ClassId} {b0 fu : Nat} {σ0 τ : tM} {v : Int32}  (C : tCx p l s m args meth c yX10_path.cls cX10_path 4 (some .int) D aC b0 σ0) (htab : ∀ x ∈ c.exceptionTable.toList, False) (hin : meth.name = yX10_path.name)  {x0 : Nat} {x1 : Int32} {x2 : Int32} {s0 : Int32} {σ : tM} (hm : J_X10_path_25 b0 fu  x0 x1 x2 s0 σ = some (v, τ)) : tX p l e s m args below meth c 4 2 44 D aC b0 σ0 (.inl (some (.int v))) τ 25 [(0, .ref (x0)), (1, .int (x1)), (2, .int (x2))] [.int (s0)] σ := by
  unfold J_X10_path_25 at hm
  refine zx_istore_n C [(3, .int (s0)), (0, .ref (x0)), (1, .int (x1)), (2, .int (x2))] dX10_path_25 rfl (by decide) rfl ?_
  refine zx_iload_n C dX10_path_26 0 rfl ?_
  refine zx_if_eq C 49 dX10_path_27 (by decide) (fun c12 => ?_) (fun c12 => ?_)
  · replace hm := ip_e hm c12
    exact zx_lv [1, 3, 0] [(0, .ref (x0)), (2, .int (x2)), (3, .int (s0))] rfl (j_X10_path_49 C htab hin    hm)
  · replace hm := in_e hm c12
    refine zx_iload_n C dX10_path_30 2 rfl ?_
    refine zx_if_ne C 49 dX10_path_31 (by decide) (fun c35 => ?_) (fun c35 => ?_)
    · replace hm := in_e hm c35
      exact zx_lv [1, 3, 0] [(0, .ref (x0)), (2, .int (x2)), (3, .int (s0))] rfl (j_X10_path_49 C htab hin    hm)
    · replace hm := ip_e hm c35
      refine zx_aload_n C dX10_path_34 1 rfl ?_
      obtain ⟨k36, i37, hm⟩ := ckO_e hm
      obtain ⟨a38, h39, hm⟩ := osm_e hm
      refine zx_get (j := 7) C tC_10 k36 i37 ⟨by decide, Or.inl W_2_220⟩ dX10_path_35 (.ref a38) (rf_s h39) ?_
      refine zx_aload_n C dX10_path_38 1 rfl ?_
      obtain ⟨a40, h41, hm⟩ := osm_e hm
      refine zx_get (j := 6) C tC_10 k36 i37 ⟨by decide, Or.inl W_2_219⟩ dX10_path_39 (.ref a40) (rf_s h41) ?_
      refine zx_iload_n C dX10_path_42 3 rfl ?_
      obtain ⟨k42, i43, hm⟩ := ckO_e hm
      obtain ⟨v44, ρ45, h46, hm⟩ := cll_e hm
      refine zx_callV (σ := σ) C [.ref (a40), .int (x2)] tC_3 k42 i43 Y_X3_take W_3_28 W_3_29 W_3_30 (c_X3_take h46) (by decide) (by decide) rfl (Nat.le_of_ble_eq_true rfl) dX10_path_43 rfl ?_
      refine zx_goto C 65 dX10_path_46 (by decide) ?_
      exact zx_lv [1, 3, 0] [(0, .ref (x0)), (2, .int (x2)), (3, .int (s0))] rfl (j_X10_path_65 C htab hin    hm)
set_option maxRecDepth 100000 in
set_option maxHeartbeats 1000000 in
theorem j_X10_path_24 {p : Program} {l : Launch} {e : Env} {s : State} {m : MethodId} {args : Array Value} {below : List Frame} {meth : Method} {c : Code} {D : va_G} {aC : Nat → ClassId} {b0 fu : Nat} {σ0 τ : tM} {v : Int32}  (C : tCx p l s m args meth c yX10_path.cls cX10_path 4 (some .int) D aC b0 σ0) (htab : ∀ x ∈ c.exceptionTable.toList, False) (hin : meth.name = yX10_path.name)  {x0 : Nat} {x1 : Int32} {x2 : Int32} {σ : tM} (hm : J_X10_path_24 b0 fu  x0 x1 x2 σ = some (v, τ)) : tX p l e s m args below meth c 4 2 44 D aC b0 σ0 (.inl (some (.int v))) τ 24 [(0, .ref (x0)), (1, .int (x1)), (2, .int (x2))] [] σ := by
  unfold J_X10_path_24 at hm
  refine zx_iconst (v := 0) C dX10_path_24 (by decide) ?_
  exact zx_lv [0, 1, 2] [(0, .ref (x0)), (1, .int (x1)), (2, .int (x2))] rfl (j_X10_path_25 C htab hin    hm)
set_option maxRecDepth 100000 in
set_option maxHeartbeats 1000000 in
theorem j_X10_path_9 {p : Program} {l : Launch} {e : Env} {s : State} {m : MethodId} {args : Array Value} {below : List Frame} {meth : Method} {c : Code} {D : va_G} {aC : Nat → ClassId} {b0 fu : Nat} {σ0 τ : tM} {v : Int32}  (C : tCx p l s m args meth c yX10_path.cls cX10_path 4 (some .int) D aC b0 σ0) (htab : ∀ x ∈ c.exceptionTable.toList, False) (hin : meth.name = yX10_path.name)  {x0 : Nat} {x1 : Int32} {x2 : Int32} {σ : tM} (hm : J_X10_path_9 b0 fu  x0 x1 x2 σ = some (v, τ)) : tX p l e s m args below meth c 4 2 44 D aC b0 σ0 (.inl (some (.int v))) τ 9 [(0, .ref (x0)), (1, .int (x1)), (2, .int (x2))] [] σ := by
  unfold J_X10_path_9 at hm
  refine zx_aload_n C dX10_path_9 0 rfl ?_
  obtain ⟨k2, i3, hm⟩ := ckO_e hm
  obtain ⟨a4, h5, hm⟩ := osm_e hm
  refine zx_get (j := 6) C tC_10 k2 i3 ⟨by decide, Or.inl W_2_219⟩ dX10_path_10 (.ref a4) (rf_s h5) ?_
  refine zx_iload_n C dX10_path_13 2 rfl ?_
  obtain ⟨k6, i7, hm⟩ := ckO_e hm
  obtain ⟨v8, ρ9, h10, hm⟩ := cll_e hm
  refine zx_callV (σ := σ) C [.int (x2)] tC_6 k6 i7 Y_X6_canBePath W_3_24 W_3_25 W_3_26 (c_X6_canBePath h10) (by decide) (by decide) rfl (Nat.le_of_ble_eq_true rfl) dX10_path_14 rfl ?_
  refine zx_if_eq C 24 dX10_path_17 (by decide) (fun c11 => ?_) (fun c11 => ?_)
  · replace hm := ip_e hm c11
    exact zx_lv [0, 1, 2] [(0, .ref (x0)), (1, .int (x1)), (2, .int (x2))] rfl (j_X10_path_24 C htab hin    hm)
  · replace hm := in_e hm c11
    refine zx_iconst (v := 1) C dX10_path_20 (by decide) ?_
    refine zx_goto C 25 dX10_path_21 (by decide) ?_
    exact zx_lv [0, 1, 2] [(0, .ref (x0)), (1, .int (x1)), (2, .int (x2))] rfl (j_X10_path_25 C htab hin    hm)
set_option maxRecDepth 100000 in
set_option maxHeartbeats 1000000 in
theorem c_X10_path {l : Launch} {D : va_G} {aC : Nat → ClassId} {b0 fu : Nat} {a0 : Nat} {p0 : Int32} {p1 : Int32} {σ τ : tM} {v : Int32} (hm : m_X10_path b0 fu a0 p0 p1 σ = some (v, τ)) : tMt l D aC b0 yX10_path (Cond.code yX10_path cX10_path 4 (some .int)) 2 44 [.ref (a0), .int (p0), .int (p1)] σ (.inl (some (.int v))) τ := by
  unfold m_X10_path at hm
  obtain ⟨hg, hm⟩ := grw_e hm
  refine tMt_of (n := 0) rfl (Nat.le_of_ble_eq_true rfl) hg ?_
  intro p e s m below meth c C htab hin
  refine zx_lv [0, 1, 2] [(0, .ref (a0)), (1, .int (p0)), (2, .int (p1))] rfl ?_
  refine zx_iload_n C dX10_path_0 1 rfl ?_
  refine zx_if_eq C 9 dX10_path_1 (by decide) (fun c1 => ?_) (fun c1 => ?_)
  · replace hm := ip_e hm c1
    exact zx_lv [0, 1, 2] [(0, .ref (a0)), (1, .int (p0)), (2, .int (p1))] rfl (j_X10_path_9 C htab hin    hm)
  · replace hm := in_e hm c1
    refine zx_iload_n C dX10_path_4 1 rfl ?_
    refine zx_iconst (v := 1) C dX10_path_5 (by decide) ?_
    refine zx_icmp_ne C 24 dX10_path_6 (by decide) (fun c47 => ?_) (fun c47 => ?_)
    · replace hm := in_e hm c47
      exact zx_lv [0, 1, 2] [(0, .ref (a0)), (1, .int (p0)), (2, .int (p1))] rfl (j_X10_path_24 C htab hin    hm)
    · replace hm := ip_e hm c47
      exact zx_lv [0, 1, 2] [(0, .ref (a0)), (1, .int (p0)), (2, .int (p1))] rfl (j_X10_path_9 C htab hin    hm)
abbrev cX10_make : ByteArray := prog_1_method_9_code
def yX10_make : MethodName := ⟨"SyncTree", "make", "(II)I"⟩
theorem Y_X10_make : tY yX10_make cX10_make 4 (some .int) 2 := ⟨W_4_153, W_1_1, ⟨by decide +kernel, by decide +kernel⟩, by decide +kernel⟩
theorem dX10_make_0 : decode cX10_make 0 = .ok (.iload_n 2, 1) := by decide +kernel
theorem dX10_make_1 : decode cX10_make 1 = .ok (.ifCond .ge 5, 3) := by decide +kernel
theorem dX10_make_4 : decode cX10_make 4 = .ok (.iload_n 2, 1) := by decide +kernel
theorem dX10_make_5 : decode cX10_make 5 = .ok (.ireturn, 1) := by decide +kernel
theorem dX10_make_6 : decode cX10_make 6 = .ok (.aload_n 0, 1) := by decide +kernel
theorem dX10_make_7 : decode cX10_make 7 = .ok (.getfield 28, 3) := by decide +kernel
theorem dX10_make_10 : decode cX10_make 10 = .ok (.invokevirtual 139, 3) := by decide +kernel
theorem dX10_make_13 : decode cX10_make 13 = .ok (.istore_n 3, 1) := by decide +kernel
theorem dX10_make_14 : decode cX10_make 14 = .ok (.iload_n 3, 1) := by decide +kernel
theorem dX10_make_15 : decode cX10_make 15 = .ok (.ifCond .ge 6, 3) := by decide +kernel
theorem dX10_make_18 : decode cX10_make 18 = .ok (.bipush (-10), 2) := by decide +kernel
theorem dX10_make_20 : decode cX10_make 20 = .ok (.ireturn, 1) := by decide +kernel
theorem dX10_make_21 : decode cX10_make 21 = .ok (.aload_n 0, 1) := by decide +kernel
theorem dX10_make_22 : decode cX10_make 22 = .ok (.getfield 28, 3) := by decide +kernel
theorem dX10_make_25 : decode cX10_make 25 = .ok (.iload_n 2, 1) := by decide +kernel
theorem dX10_make_26 : decode cX10_make 26 = .ok (.invokevirtual 142, 3) := by decide +kernel
theorem dX10_make_29 : decode cX10_make 29 = .ok (.ifCond .ne 6, 3) := by decide +kernel
theorem dX10_make_32 : decode cX10_make 32 = .ok (.bipush (-6), 2) := by decide +kernel
theorem dX10_make_34 : decode cX10_make 34 = .ok (.ireturn, 1) := by decide +kernel
theorem dX10_make_35 : decode cX10_make 35 = .ok (.aload_n 0, 1) := by decide +kernel
theorem dX10_make_36 : decode cX10_make 36 = .ok (.getfield 28, 3) := by decide +kernel
theorem dX10_make_39 : decode cX10_make 39 = .ok (.iload_n 3, 1) := by decide +kernel
theorem dX10_make_40 : decode cX10_make 40 = .ok (.iload_n 1, 1) := by decide +kernel
theorem dX10_make_41 : decode cX10_make 41 = .ok (.iload_n 2, 1) := by decide +kernel
theorem dX10_make_42 : decode cX10_make 42 = .ok (.invokevirtual 93, 3) := by decide +kernel
theorem dX10_make_45 : decode cX10_make 45 = .ok (.iload_n 1, 1) := by decide +kernel
theorem dX10_make_46 : decode cX10_make 46 = .ok (.iconst 3, 1) := by decide +kernel
theorem dX10_make_47 : decode cX10_make 47 = .ok (.if_icmp .ne 15, 3) := by decide +kernel
theorem dX10_make_50 : decode cX10_make 50 = .ok (.aload_n 0, 1) := by decide +kernel
theorem dX10_make_51 : decode cX10_make 51 = .ok (.getfield 28, 3) := by decide +kernel
theorem dX10_make_54 : decode cX10_make 54 = .ok (.iload_n 3, 1) := by decide +kernel
theorem dX10_make_55 : decode cX10_make 55 = .ok (.aload_n 0, 1) := by decide +kernel
theorem dX10_make_56 : decode cX10_make 56 = .ok (.getfield 73, 3) := by decide +kernel
theorem dX10_make_59 : decode cX10_make 59 = .ok (.invokevirtual 145, 3) := by decide +kernel
theorem dX10_make_62 : decode cX10_make 62 = .ok (.aload_n 0, 1) := by decide +kernel
theorem dX10_make_63 : decode cX10_make 63 = .ok (.getfield 28, 3) := by decide +kernel
theorem dX10_make_66 : decode cX10_make 66 = .ok (.iload_n 2, 1) := by decide +kernel
theorem dX10_make_67 : decode cX10_make 67 = .ok (.aload_n 0, 1) := by decide +kernel
theorem dX10_make_68 : decode cX10_make 68 = .ok (.getfield 69, 3) := by decide +kernel
theorem dX10_make_71 : decode cX10_make 71 = .ok (.iload_n 3, 1) := by decide +kernel
theorem dX10_make_72 : decode cX10_make 72 = .ok (.invokevirtual 149, 3) := by decide +kernel
theorem dX10_make_75 : decode cX10_make 75 = .ok (.iload_n 3, 1) := by decide +kernel
theorem dX10_make_76 : decode cX10_make 76 = .ok (.ireturn, 1) := by decide +kernel
set_option maxRecDepth 100000 in
set_option maxHeartbeats 1000000 in
theorem j_X10_make_62 {p : Program} {l : Launch} {e : Env} {s : State} {m : MethodId} {args : Array Value} {below : List Frame} {meth : Method} {c : Code} {D : va_G} {aC : Nat → ClassId} {b0 fu : Nat} {σ0 τ : tM} {v : Int32}  (C : tCx p l s m args meth c yX10_make.cls cX10_make 4 (some .int) D aC b0 σ0) (htab : ∀ x ∈ c.exceptionTable.toList, False) (hin : meth.name = yX10_make.name)  {x0 : Nat} {x2 : Int32} {x3 : Int32} {σ : tM} (hm : J_X10_make_62 b0 fu  x0 x2 x3 σ = some (v, τ)) : tX p l e s m args below meth c 4 5 120 D aC b0 σ0 (.inl (some (.int v))) τ 62 [(0, .ref (x0)), (2, .int (x2)), (3, .int (x3))] [] σ := by
  unfold J_X10_make_62 at hm
  refine zx_aload_n C dX10_make_62 0 rfl ?_
  obtain ⟨k32, i33, hm⟩ := ckO_e hm
  obtain ⟨a34, h35, hm⟩ := osm_e hm
  refine zx_get (j := 2) C tC_10 k32 i33 ⟨by decide, Or.inl W_2_215⟩ dX10_make_63 (.ref a34) (rf_s h35) ?_
  refine zx_iload_n C dX10_make_66 1 rfl ?_
  refine zx_aload_n C dX10_make_67 0 rfl ?_
  obtain ⟨a36, h37, hm⟩ := osm_e hm
  refine zx_get (j := 7) C tC_10 k32 i33 ⟨by decide, Or.inl W_2_220⟩ dX10_make_68 (.ref a36) (rf_s h37) ?_
  refine zx_iload_n C dX10_make_71 2 rfl ?_
  obtain ⟨k38, i39, hm⟩ := ckO_e hm
  obtain ⟨v40, ρ41, h42, hm⟩ := cll_e hm
  refine zx_callV (σ := σ) C [.int (x2), .ref (a36), .int (x3)] tC_8 k38 i39 Y_X8_addEntry W_4_195 W_4_196 W_4_197 (c_X8_addEntry h42) (by decide) (by decide) rfl (Nat.le_of_ble_eq_true rfl) dX10_make_72 rfl ?_
  refine zx_iload_n C dX10_make_75 2 rfl ?_
  obtain ⟨rfl, rfl⟩ := ret_e hm
  exact zx_iret C rfl rfl rfl dX10_make_76
set_option maxRecDepth 100000 in
set_option maxHeartbeats 1000000 in
theorem c_X10_make {l : Launch} {D : va_G} {aC : Nat → ClassId} {b0 fu : Nat} {a0 : Nat} {p0 : Int32} {p1 : Int32} {σ τ : tM} {v : Int32} (hm : m_X10_make b0 fu a0 p0 p1 σ = some (v, τ)) : tMt l D aC b0 yX10_make (Cond.code yX10_make cX10_make 4 (some .int)) 5 120 [.ref (a0), .int (p0), .int (p1)] σ (.inl (some (.int v))) τ := by
  unfold m_X10_make at hm
  obtain ⟨hg, hm⟩ := grw_e hm
  refine tMt_of (n := 0) rfl (Nat.le_of_ble_eq_true rfl) hg ?_
  intro p e s m below meth c C htab hin
  refine zx_lv [0, 1, 2] [(0, .ref (a0)), (1, .int (p0)), (2, .int (p1))] rfl ?_
  refine zx_iload_n C dX10_make_0 2 rfl ?_
  refine zx_if_ge C 6 dX10_make_1 (by decide) (fun c1 => ?_) (fun c1 => ?_)
  · replace hm := ip_e hm c1
    refine zx_aload_n C dX10_make_6 0 rfl ?_
    obtain ⟨k2, i3, hm⟩ := ckO_e hm
    obtain ⟨a4, h5, hm⟩ := osm_e hm
    refine zx_get (j := 2) C tC_10 k2 i3 ⟨by decide, Or.inl W_2_215⟩ dX10_make_7 (.ref a4) (rf_s h5) ?_
    obtain ⟨k6, i7, hm⟩ := ckO_e hm
    obtain ⟨v8, ρ9, h10, hm⟩ := cll_e hm
    refine zx_callV (σ := σ) C [] tC_8 k6 i7 Y_X8_lowestUnused W_4_154 W_4_155 W_4_156 (c_X8_lowestUnused h10) (by decide) (by decide) rfl (Nat.le_of_ble_eq_true rfl) dX10_make_10 rfl ?_
    refine zx_istore_n C [(3, .int (v8)), (0, .ref (a0)), (1, .int (p0)), (2, .int (p1))] dX10_make_13 rfl (by decide) rfl ?_
    refine zx_iload_n C dX10_make_14 0 rfl ?_
    refine zx_if_ge C 21 dX10_make_15 (by decide) (fun c11 => ?_) (fun c11 => ?_)
    · replace hm := ip_e hm c11
      refine zx_aload_n C dX10_make_21 1 rfl ?_
      obtain ⟨k12, i13, hm⟩ := ckO_e hm
      obtain ⟨a14, h15, hm⟩ := osm_e hm
      refine zx_get (j := 2) C tC_10 k12 i13 ⟨by decide, Or.inl W_2_215⟩ dX10_make_22 (.ref a14) (rf_s h15) ?_
      refine zx_iload_n C dX10_make_25 3 rfl ?_
      obtain ⟨k16, i17, hm⟩ := ckO_e hm
      obtain ⟨v18, ρ19, h20, hm⟩ := cll_e hm
      refine zx_callV (σ := ρ9) C [.int (p1)] tC_8 k16 i17 Y_X8_hasPlaceForEntry W_4_158 W_4_159 W_4_160 (c_X8_hasPlaceForEntry h20) (by decide) (by decide) rfl (Nat.le_of_ble_eq_true rfl) dX10_make_26 rfl ?_
      refine zx_if_ne C 35 dX10_make_29 (by decide) (fun c21 => ?_) (fun c21 => ?_)
      · replace hm := in_e hm c21
        refine zx_aload_n C dX10_make_35 1 rfl ?_
        obtain ⟨k22, i23, hm⟩ := ckO_e hm
        obtain ⟨a24, h25, hm⟩ := osm_e hm
        refine zx_get (j := 2) C tC_10 k22 i23 ⟨by decide, Or.inl W_2_215⟩ dX10_make_36 (.ref a24) (rf_s h25) ?_
        refine zx_iload_n C dX10_make_39 0 rfl ?_
        refine zx_iload_n C dX10_make_40 2 rfl ?_
        refine zx_iload_n C dX10_make_41 3 rfl ?_
        obtain ⟨k26, i27, hm⟩ := ckO_e hm
        obtain ⟨v28, ρ29, h30, hm⟩ := cll_e hm
        refine zx_callV (σ := ρ19) C [.int (v8), .int (p0), .int (p1)] tC_8 k26 i27 Y_X8_setUp W_2_144 W_2_145 W_2_146 (c_X8_setUp h30) (by decide) (by decide) rfl (Nat.le_of_ble_eq_true rfl) dX10_make_42 rfl ?_
        refine zx_iload_n C dX10_make_45 2 rfl ?_
        refine zx_iconst (v := 3) C dX10_make_46 (by decide) ?_
        refine zx_icmp_ne C 62 dX10_make_47 (by decide) (fun c31 => ?_) (fun c31 => ?_)
        · replace hm := in_e hm c31
          exact zx_lv [1, 3, 0] [(0, .ref (a0)), (2, .int (p1)), (3, .int (v8))] rfl (j_X10_make_62 C htab hin    hm)
        · replace hm := ip_e hm c31
          refine zx_aload_n C dX10_make_50 1 rfl ?_
          obtain ⟨k43, i44, hm⟩ := ckO_e hm
          obtain ⟨a45, h46, hm⟩ := osm_e hm
          refine zx_get (j := 2) C tC_10 k43 i44 ⟨by decide, Or.inl W_2_215⟩ dX10_make_51 (.ref a45) (rf_s h46) ?_
          refine zx_iload_n C dX10_make_54 0 rfl ?_
          refine zx_aload_n C dX10_make_55 1 rfl ?_
          obtain ⟨a47, h48, hm⟩ := osm_e hm
          refine zx_get (j := 8) C tC_10 k43 i44 ⟨by decide, Or.inl W_2_221⟩ dX10_make_56 (.ref a47) (rf_s h48) ?_
          obtain ⟨k49, i50, hm⟩ := ckO_e hm
          obtain ⟨v51, ρ52, h53, hm⟩ := cll_e hm
          refine zx_callV (σ := ρ29) C [.int (v8), .ref (a47)] tC_8 k49 i50 Y_X8_setText W_4_175 W_4_176 W_4_177 (c_X8_setText h53) (by decide) (by decide) rfl (Nat.le_of_ble_eq_true rfl) dX10_make_59 rfl ?_
          exact zx_lv [1, 3, 0] [(0, .ref (a0)), (2, .int (p1)), (3, .int (v8))] rfl (j_X10_make_62 C htab hin    hm)
      · replace hm := ip_e hm c21
        refine zx_bipush (v := (-6)) C dX10_make_32 (by decide) ?_
        obtain ⟨rfl, rfl⟩ := ret_e hm
        exact zx_iret C rfl rfl rfl dX10_make_34
    · replace hm := in_e hm c11
      refine zx_bipush (v := (-10)) C dX10_make_18 (by decide) ?_
      obtain ⟨rfl, rfl⟩ := ret_e hm
      exact zx_iret C rfl rfl rfl dX10_make_20
  · replace hm := in_e hm c1
    refine zx_iload_n C dX10_make_4 2 rfl ?_
    obtain ⟨rfl, rfl⟩ := ret_e hm
    exact zx_iret C rfl rfl rfl dX10_make_5
abbrev cX10_refuseMove : ByteArray := prog_1_method_16_code
def yX10_refuseMove : MethodName := ⟨"SyncTree", "refuseMove", "(III)I"⟩
theorem Y_X10_refuseMove : tY yX10_refuseMove cX10_refuseMove 4 (some .int) 3 := ⟨W_5_109, W_1_1, ⟨by decide +kernel, by decide +kernel⟩, by decide +kernel⟩
theorem dX10_refuseMove_0 : decode cX10_refuseMove 0 = .ok (.aload_n 0, 1) := by decide +kernel
theorem dX10_refuseMove_1 : decode cX10_refuseMove 1 = .ok (.getfield 28, 3) := by decide +kernel
theorem dX10_refuseMove_4 : decode cX10_refuseMove 4 = .ok (.iload_n 1, 1) := by decide +kernel
theorem dX10_refuseMove_5 : decode cX10_refuseMove 5 = .ok (.invokevirtual 168, 3) := by decide +kernel
theorem dX10_refuseMove_8 : decode cX10_refuseMove 8 = .ok (.iconst 2, 1) := by decide +kernel
theorem dX10_refuseMove_9 : decode cX10_refuseMove 9 = .ok (.if_icmp .ne 55, 3) := by decide +kernel
theorem dX10_refuseMove_12 : decode cX10_refuseMove 12 = .ok (.aload_n 0, 1) := by decide +kernel
theorem dX10_refuseMove_13 : decode cX10_refuseMove 13 = .ok (.getfield 28, 3) := by decide +kernel
theorem dX10_refuseMove_16 : decode cX10_refuseMove 16 = .ok (.iload_n 2, 1) := by decide +kernel
theorem dX10_refuseMove_17 : decode cX10_refuseMove 17 = .ok (.iload_n 1, 1) := by decide +kernel
theorem dX10_refuseMove_18 : decode cX10_refuseMove 18 = .ok (.invokevirtual 211, 3) := by decide +kernel
theorem dX10_refuseMove_21 : decode cX10_refuseMove 21 = .ok (.ifCond .eq 6, 3) := by decide +kernel
theorem dX10_refuseMove_24 : decode cX10_refuseMove 24 = .ok (.bipush (-9), 2) := by decide +kernel
theorem dX10_refuseMove_26 : decode cX10_refuseMove 26 = .ok (.ireturn, 1) := by decide +kernel
theorem dX10_refuseMove_27 : decode cX10_refuseMove 27 = .ok (.iload_n 3, 1) := by decide +kernel
theorem dX10_refuseMove_28 : decode cX10_refuseMove 28 = .ok (.ifCond .lt 18, 3) := by decide +kernel
theorem dX10_refuseMove_31 : decode cX10_refuseMove 31 = .ok (.aload_n 0, 1) := by decide +kernel
theorem dX10_refuseMove_32 : decode cX10_refuseMove 32 = .ok (.getfield 28, 3) := by decide +kernel
theorem dX10_refuseMove_35 : decode cX10_refuseMove 35 = .ok (.iload_n 3, 1) := by decide +kernel
theorem dX10_refuseMove_36 : decode cX10_refuseMove 36 = .ok (.invokevirtual 168, 3) := by decide +kernel
theorem dX10_refuseMove_39 : decode cX10_refuseMove 39 = .ok (.iconst 2, 1) := by decide +kernel
theorem dX10_refuseMove_40 : decode cX10_refuseMove 40 = .ok (.if_icmp .eq 6, 3) := by decide +kernel
theorem dX10_refuseMove_43 : decode cX10_refuseMove 43 = .ok (.bipush (-3), 2) := by decide +kernel
theorem dX10_refuseMove_45 : decode cX10_refuseMove 45 = .ok (.ireturn, 1) := by decide +kernel
theorem dX10_refuseMove_46 : decode cX10_refuseMove 46 = .ok (.iload_n 3, 1) := by decide +kernel
theorem dX10_refuseMove_47 : decode cX10_refuseMove 47 = .ok (.ifCond .lt 36, 3) := by decide +kernel
theorem dX10_refuseMove_50 : decode cX10_refuseMove 50 = .ok (.aload_n 0, 1) := by decide +kernel
theorem dX10_refuseMove_51 : decode cX10_refuseMove 51 = .ok (.getfield 28, 3) := by decide +kernel
theorem dX10_refuseMove_54 : decode cX10_refuseMove 54 = .ok (.iload_n 3, 1) := by decide +kernel
theorem dX10_refuseMove_55 : decode cX10_refuseMove 55 = .ok (.invokevirtual 193, 3) := by decide +kernel
theorem dX10_refuseMove_58 : decode cX10_refuseMove 58 = .ok (.ifCond .eq 25, 3) := by decide +kernel
theorem dX10_refuseMove_61 : decode cX10_refuseMove 61 = .ok (.bipush (-5), 2) := by decide +kernel
theorem dX10_refuseMove_63 : decode cX10_refuseMove 63 = .ok (.ireturn, 1) := by decide +kernel
theorem dX10_refuseMove_64 : decode cX10_refuseMove 64 = .ok (.iload_n 3, 1) := by decide +kernel
theorem dX10_refuseMove_65 : decode cX10_refuseMove 65 = .ok (.ifCond .lt 18, 3) := by decide +kernel
theorem dX10_refuseMove_68 : decode cX10_refuseMove 68 = .ok (.aload_n 0, 1) := by decide +kernel
theorem dX10_refuseMove_69 : decode cX10_refuseMove 69 = .ok (.getfield 28, 3) := by decide +kernel
theorem dX10_refuseMove_72 : decode cX10_refuseMove 72 = .ok (.iload_n 3, 1) := by decide +kernel
theorem dX10_refuseMove_73 : decode cX10_refuseMove 73 = .ok (.invokevirtual 168, 3) := by decide +kernel
theorem dX10_refuseMove_76 : decode cX10_refuseMove 76 = .ok (.iconst 2, 1) := by decide +kernel
theorem dX10_refuseMove_77 : decode cX10_refuseMove 77 = .ok (.if_icmp .ne 6, 3) := by decide +kernel
theorem dX10_refuseMove_80 : decode cX10_refuseMove 80 = .ok (.bipush (-4), 2) := by decide +kernel
theorem dX10_refuseMove_82 : decode cX10_refuseMove 82 = .ok (.ireturn, 1) := by decide +kernel
theorem dX10_refuseMove_83 : decode cX10_refuseMove 83 = .ok (.iload_n 3, 1) := by decide +kernel
theorem dX10_refuseMove_84 : decode cX10_refuseMove 84 = .ok (.ifCond .ge 19, 3) := by decide +kernel
theorem dX10_refuseMove_87 : decode cX10_refuseMove 87 = .ok (.aload_n 0, 1) := by decide +kernel
theorem dX10_refuseMove_88 : decode cX10_refuseMove 88 = .ok (.getfield 28, 3) := by decide +kernel
theorem dX10_refuseMove_91 : decode cX10_refuseMove 91 = .ok (.iload_n 2, 1) := by decide +kernel
theorem dX10_refuseMove_92 : decode cX10_refuseMove 92 = .ok (.invokevirtual 142, 3) := by decide +kernel
theorem dX10_refuseMove_95 : decode cX10_refuseMove 95 = .ok (.ifCond .ne 8, 3) := by decide +kernel
theorem dX10_refuseMove_98 : decode cX10_refuseMove 98 = .ok (.bipush (-6), 2) := by decide +kernel
theorem dX10_refuseMove_100 : decode cX10_refuseMove 100 = .ok (.goto 4, 3) := by decide +kernel
theorem dX10_refuseMove_103 : decode cX10_refuseMove 103 = .ok (.iconst 0, 1) := by decide +kernel
theorem dX10_refuseMove_104 : decode cX10_refuseMove 104 = .ok (.ireturn, 1) := by decide +kernel
set_option maxRecDepth 100000 in
set_option maxHeartbeats 1000000 in
theorem j_X10_refuseMove_104 {p : Program} {l : Launch} {e : Env} {s : State} {m : MethodId} {args : Array Value} {below : List Frame} {meth : Method} {c : Code} {D : va_G} {aC : Nat → ClassId} {b0 fu : Nat} {σ0 τ : tM} {v : Int32}  (C : tCx p l s m args meth c yX10_refuseMove.cls cX10_refuseMove 4 (some .int) D aC b0 σ0) (htab : ∀ x ∈ c.exceptionTable.toList, False) (hin : meth.name = yX10_refuseMove.name)  {s0 : Int32} {σ : tM} (hm : J_X10_refuseMove_104 b0 fu  s0 σ = some (v, τ)) : tX p l e s m args below meth c 4 5 114 D aC b0 σ0 (.inl (some (.int v))) τ 104 [] [.int (s0)] σ := by
  unfold J_X10_refuseMove_104 at hm
  obtain ⟨rfl, rfl⟩ := ret_e hm
  exact zx_iret C rfl rfl rfl dX10_refuseMove_104
set_option maxRecDepth 100000 in
set_option maxHeartbeats 1000000 in
theorem j_X10_refuseMove_103 {p : Program} {l : Launch} {e : Env} {s : State} {m : MethodId} {args : Array Value} {below : List Frame} {meth : Method} {c : Code} {D : va_G} {aC : Nat → ClassId} {b0 fu : Nat} {σ0 τ : tM} {v : Int32}  (C : tCx p l s m args meth c yX10_refuseMove.cls cX10_refuseMove 4 (some .int) D aC b0 σ0) (htab : ∀ x ∈ c.exceptionTable.toList, False) (hin : meth.name = yX10_refuseMove.name)   {σ : tM} (hm : J_X10_refuseMove_103 b0 fu   σ = some (v, τ)) : tX p l e s m args below meth c 4 5 114 D aC b0 σ0 (.inl (some (.int v))) τ 103 [] [] σ := by
  unfold J_X10_refuseMove_103 at hm
  refine zx_iconst (v := 0) C dX10_refuseMove_103 (by decide) ?_
  exact zx_lv [] [] rfl (j_X10_refuseMove_104 C htab hin    hm)
set_option maxRecDepth 100000 in
set_option maxHeartbeats 1000000 in
theorem j_X10_refuseMove_83 {p : Program} {l : Launch} {e : Env} {s : State} {m : MethodId} {args : Array Value} {below : List Frame} {meth : Method} {c : Code} {D : va_G} {aC : Nat → ClassId} {b0 fu : Nat} {σ0 τ : tM} {v : Int32}  (C : tCx p l s m args meth c yX10_refuseMove.cls cX10_refuseMove 4 (some .int) D aC b0 σ0) (htab : ∀ x ∈ c.exceptionTable.toList, False) (hin : meth.name = yX10_refuseMove.name)  {x0 : Nat} {x2 : Int32} {x3 : Int32} {σ : tM} (hm : J_X10_refuseMove_83 b0 fu  x0 x2 x3 σ = some (v, τ)) : tX p l e s m args below meth c 4 5 114 D aC b0 σ0 (.inl (some (.int v))) τ 83 [(0, .ref (x0)), (2, .int (x2)), (3, .int (x3))] [] σ := by
  unfold J_X10_refuseMove_83 at hm
  refine zx_iload_n C dX10_refuseMove_83 2 rfl ?_
  refine zx_if_ge C 103 dX10_refuseMove_84 (by decide) (fun c12 => ?_) (fun c12 => ?_)
  · replace hm := ip_e hm c12
    exact zx_lv [] [] rfl (j_X10_refuseMove_103 C htab hin    hm)
  · replace hm := in_e hm c12
    refine zx_aload_n C dX10_refuseMove_87 0 rfl ?_
    obtain ⟨k13, i14, hm⟩ := ckO_e hm
    obtain ⟨a15, h16, hm⟩ := osm_e hm
    refine zx_get (j := 2) C tC_10 k13 i14 ⟨by decide, Or.inl W_2_215⟩ dX10_refuseMove_88 (.ref a15) (rf_s h16) ?_
    refine zx_iload_n C dX10_refuseMove_91 1 rfl ?_
    obtain ⟨k17, i18, hm⟩ := ckO_e hm
    obtain ⟨v19, ρ20, h21, hm⟩ := cll_e hm
    refine zx_callV (σ := σ) C [.int (x2)] tC_8 k17 i18 Y_X8_hasPlaceForEntry W_4_158 W_4_159 W_4_160 (c_X8_hasPlaceForEntry h21) (by decide) (by decide) rfl (Nat.le_of_ble_eq_true rfl) dX10_refuseMove_92 rfl ?_
    refine zx_if_ne C 103 dX10_refuseMove_95 (by decide) (fun c22 => ?_) (fun c22 => ?_)
    · replace hm := in_e hm c22
      exact zx_lv [] [] rfl (j_X10_refuseMove_103 C htab hin    hm)
    · replace hm := ip_e hm c22
      refine zx_bipush (v := (-6)) C dX10_refuseMove_98 (by decide) ?_
      refine zx_goto C 104 dX10_refuseMove_100 (by decide) ?_
      exact zx_lv [] [] rfl (j_X10_refuseMove_104 C htab hin    hm)
set_option maxRecDepth 100000 in
set_option maxHeartbeats 1000000 in
theorem j_X10_refuseMove_46 {p : Program} {l : Launch} {e : Env} {s : State} {m : MethodId} {args : Array Value} {below : List Frame} {meth : Method} {c : Code} {D : va_G} {aC : Nat → ClassId} {b0 fu : Nat} {σ0 τ : tM} {v : Int32}  (C : tCx p l s m args meth c yX10_refuseMove.cls cX10_refuseMove 4 (some .int) D aC b0 σ0) (htab : ∀ x ∈ c.exceptionTable.toList, False) (hin : meth.name = yX10_refuseMove.name)  {x0 : Nat} {x2 : Int32} {x3 : Int32} {σ : tM} (hm : J_X10_refuseMove_46 b0 fu  x0 x2 x3 σ = some (v, τ)) : tX p l e s m args below meth c 4 5 114 D aC b0 σ0 (.inl (some (.int v))) τ 46 [(0, .ref (x0)), (2, .int (x2)), (3, .int (x3))] [] σ := by
  unfold J_X10_refuseMove_46 at hm
  refine zx_iload_n C dX10_refuseMove_46 2 rfl ?_
  refine zx_if_lt C 83 dX10_refuseMove_47 (by decide) (fun c44 => ?_) (fun c44 => ?_)
  · replace hm := ip_e hm c44
    exact zx_lv [0, 1, 2] [(0, .ref (x0)), (2, .int (x2)), (3, .int (x3))] rfl (j_X10_refuseMove_83 C htab hin    hm)
  · replace hm := in_e hm c44
    refine zx_aload_n C dX10_refuseMove_50 0 rfl ?_
    obtain ⟨k45, i46, hm⟩ := ckO_e hm
    obtain ⟨a47, h48, hm⟩ := osm_e hm
    refine zx_get (j := 2) C tC_10 k45 i46 ⟨by decide, Or.inl W_2_215⟩ dX10_refuseMove_51 (.ref a47) (rf_s h48) ?_
    refine zx_iload_n C dX10_refuseMove_54 2 rfl ?_
    obtain ⟨k49, i50, hm⟩ := ckO_e hm
    obtain ⟨v51, ρ52, h53, hm⟩ := cll_e hm
    refine zx_callV (σ := σ) C [.int (x3)] tC_8 k49 i50 Y_X8_countEntries W_5_95 W_5_96 W_5_97 (c_X8_countEntries h53) (by decide) (by decide) rfl (Nat.le_of_ble_eq_true rfl) dX10_refuseMove_55 rfl ?_
    refine zx_if_eq C 83 dX10_refuseMove_58 (by decide) (fun c54 => ?_) (fun c54 => ?_)
    · replace hm := ip_e hm c54
      exact zx_lv [0, 1, 2] [(0, .ref (x0)), (2, .int (x2)), (3, .int (x3))] rfl (j_X10_refuseMove_83 C htab hin    hm)
    · replace hm := in_e hm c54
      refine zx_bipush (v := (-5)) C dX10_refuseMove_61 (by decide) ?_
      obtain ⟨rfl, rfl⟩ := ret_e hm
      exact zx_iret C rfl rfl rfl dX10_refuseMove_63
set_option maxRecDepth 100000 in
set_option maxHeartbeats 1000000 in
theorem c_X10_refuseMove {l : Launch} {D : va_G} {aC : Nat → ClassId} {b0 fu : Nat} {a0 : Nat} {p0 : Int32} {p1 : Int32} {p2 : Int32} {σ τ : tM} {v : Int32} (hm : m_X10_refuseMove b0 fu a0 p0 p1 p2 σ = some (v, τ)) : tMt l D aC b0 yX10_refuseMove (Cond.code yX10_refuseMove cX10_refuseMove 4 (some .int)) 5 114 [.ref (a0), .int (p0), .int (p1), .int (p2)] σ (.inl (some (.int v))) τ := by
  unfold m_X10_refuseMove at hm
  obtain ⟨hg, hm⟩ := grw_e hm
  refine tMt_of (n := 0) rfl (Nat.le_of_ble_eq_true rfl) hg ?_
  intro p e s m below meth c C htab hin
  refine zx_lv [0, 1, 2, 3] [(0, .ref (a0)), (1, .int (p0)), (2, .int (p1)), (3, .int (p2))] rfl ?_
  refine zx_aload_n C dX10_refuseMove_0 0 rfl ?_
  obtain ⟨k1, i2, hm⟩ := ckO_e hm
  obtain ⟨a3, h4, hm⟩ := osm_e hm
  refine zx_get (j := 2) C tC_10 k1 i2 ⟨by decide, Or.inl W_2_215⟩ dX10_refuseMove_1 (.ref a3) (rf_s h4) ?_
  refine zx_iload_n C dX10_refuseMove_4 1 rfl ?_
  obtain ⟨k5, i6, hm⟩ := ckO_e hm
  obtain ⟨v7, ρ8, h9, hm⟩ := cll_e hm
  refine zx_callV (σ := σ) C [.int (p0)] tC_8 k5 i6 Y_X8_kind W_5_14 W_3_80 W_3_81 (c_X8_kind h9) (by decide) (by decide) rfl (Nat.le_of_ble_eq_true rfl) dX10_refuseMove_5 rfl ?_
  refine zx_iconst (v := 2) C dX10_refuseMove_8 (by decide) ?_
  refine zx_icmp_ne C 64 dX10_refuseMove_9 (by decide) (fun c10 => ?_) (fun c10 => ?_)
  · replace hm := in_e hm c10
    refine zx_iload_n C dX10_refuseMove_64 3 rfl ?_
    refine zx_if_lt C 83 dX10_refuseMove_65 (by decide) (fun c11 => ?_) (fun c11 => ?_)
    · replace hm := ip_e hm c11
      exact zx_lv [0, 2, 3] [(0, .ref (a0)), (2, .int (p1)), (3, .int (p2))] rfl (j_X10_refuseMove_83 C htab hin    hm)
    · replace hm := in_e hm c11
      refine zx_aload_n C dX10_refuseMove_68 0 rfl ?_
      obtain ⟨k23, i24, hm⟩ := ckO_e hm
      obtain ⟨a25, h26, hm⟩ := osm_e hm
      refine zx_get (j := 2) C tC_10 k23 i24 ⟨by decide, Or.inl W_2_215⟩ dX10_refuseMove_69 (.ref a25) (rf_s h26) ?_
      refine zx_iload_n C dX10_refuseMove_72 3 rfl ?_
      obtain ⟨k27, i28, hm⟩ := ckO_e hm
      obtain ⟨v29, ρ30, h31, hm⟩ := cll_e hm
      refine zx_callV (σ := ρ8) C [.int (p2)] tC_8 k27 i28 Y_X8_kind W_5_14 W_3_80 W_3_81 (c_X8_kind h31) (by decide) (by decide) rfl (Nat.le_of_ble_eq_true rfl) dX10_refuseMove_73 rfl ?_
      refine zx_iconst (v := 2) C dX10_refuseMove_76 (by decide) ?_
      refine zx_icmp_ne C 83 dX10_refuseMove_77 (by decide) (fun c32 => ?_) (fun c32 => ?_)
      · replace hm := in_e hm c32
        exact zx_lv [0, 2, 3] [(0, .ref (a0)), (2, .int (p1)), (3, .int (p2))] rfl (j_X10_refuseMove_83 C htab hin    hm)
      · replace hm := ip_e hm c32
        refine zx_bipush (v := (-4)) C dX10_refuseMove_80 (by decide) ?_
        obtain ⟨rfl, rfl⟩ := ret_e hm
        exact zx_iret C rfl rfl rfl dX10_refuseMove_82
  · replace hm := ip_e hm c10
    refine zx_aload_n C dX10_refuseMove_12 0 rfl ?_
    obtain ⟨k33, i34, hm⟩ := ckO_e hm
    obtain ⟨a35, h36, hm⟩ := osm_e hm
    refine zx_get (j := 2) C tC_10 k33 i34 ⟨by decide, Or.inl W_2_215⟩ dX10_refuseMove_13 (.ref a35) (rf_s h36) ?_
    refine zx_iload_n C dX10_refuseMove_16 2 rfl ?_
    refine zx_iload_n C dX10_refuseMove_17 1 rfl ?_
    obtain ⟨k37, i38, hm⟩ := ckO_e hm
    obtain ⟨v39, ρ40, h41, hm⟩ := cll_e hm
    refine zx_callV (σ := ρ8) C [.int (p1), .int (p0)] tC_8 k37 i38 Y_X8_isWithin W_5_110 W_5_111 W_5_112 (c_X8_isWithin h41) (by decide) (by decide) rfl (Nat.le_of_ble_eq_true rfl) dX10_refuseMove_18 rfl ?_
    refine zx_if_eq C 27 dX10_refuseMove_21 (by decide) (fun c42 => ?_) (fun c42 => ?_)
    · replace hm := ip_e hm c42
      refine zx_iload_n C dX10_refuseMove_27 3 rfl ?_
      refine zx_if_lt C 46 dX10_refuseMove_28 (by decide) (fun c43 => ?_) (fun c43 => ?_)
      · replace hm := ip_e hm c43
        exact zx_lv [0, 2, 3] [(0, .ref (a0)), (2, .int (p1)), (3, .int (p2))] rfl (j_X10_refuseMove_46 C htab hin    hm)
      · replace hm := in_e hm c43
        refine zx_aload_n C dX10_refuseMove_31 0 rfl ?_
        obtain ⟨k55, i56, hm⟩ := ckO_e hm
        obtain ⟨a57, h58, hm⟩ := osm_e hm
        refine zx_get (j := 2) C tC_10 k55 i56 ⟨by decide, Or.inl W_2_215⟩ dX10_refuseMove_32 (.ref a57) (rf_s h58) ?_
        refine zx_iload_n C dX10_refuseMove_35 3 rfl ?_
        obtain ⟨k59, i60, hm⟩ := ckO_e hm
        obtain ⟨v61, ρ62, h63, hm⟩ := cll_e hm
        refine zx_callV (σ := ρ40) C [.int (p2)] tC_8 k59 i60 Y_X8_kind W_5_14 W_3_80 W_3_81 (c_X8_kind h63) (by decide) (by decide) rfl (Nat.le_of_ble_eq_true rfl) dX10_refuseMove_36 rfl ?_
        refine zx_iconst (v := 2) C dX10_refuseMove_39 (by decide) ?_
        refine zx_icmp_eq C 46 dX10_refuseMove_40 (by decide) (fun c64 => ?_) (fun c64 => ?_)
        · replace hm := ip_e hm c64
          exact zx_lv [0, 2, 3] [(0, .ref (a0)), (2, .int (p1)), (3, .int (p2))] rfl (j_X10_refuseMove_46 C htab hin    hm)
        · replace hm := in_e hm c64
          refine zx_bipush (v := (-3)) C dX10_refuseMove_43 (by decide) ?_
          obtain ⟨rfl, rfl⟩ := ret_e hm
          exact zx_iret C rfl rfl rfl dX10_refuseMove_45
    · replace hm := in_e hm c42
      refine zx_bipush (v := (-9)) C dX10_refuseMove_24 (by decide) ?_
      obtain ⟨rfl, rfl⟩ := ret_e hm
      exact zx_iret C rfl rfl rfl dX10_refuseMove_26
