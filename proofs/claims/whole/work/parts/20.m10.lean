abbrev cX8_countEntries : ByteArray := prog_10_method_42_code
def yX8_countEntries : MethodName := ⟨"SyncTree$Tree", "countEntries", "(I)I"⟩
theorem Y_X8_countEntries : tY yX8_countEntries cX8_countEntries 5 (some .int) 1 := ⟨W_5_98, W_1_4, ⟨by decide +kernel, by decide +kernel⟩, by decide +kernel⟩
theorem dX8_countEntries_0 : decode cX8_countEntries 0 = .ok (.iconst 0, 1) := by decide +kernel
theorem dX8_countEntries_1 : decode cX8_countEntries 1 = .ok (.istore_n 2, 1) := by decide +kernel
theorem dX8_countEntries_2 : decode cX8_countEntries 2 = .ok (.aload_n 0, 1) := by decide +kernel
theorem dX8_countEntries_3 : decode cX8_countEntries 3 = .ok (.iload_n 1, 1) := by decide +kernel
theorem dX8_countEntries_4 : decode cX8_countEntries 4 = .ok (.invokevirtual 169, 3) := by decide +kernel
theorem dX8_countEntries_7 : decode cX8_countEntries 7 = .ok (.istore_n 3, 1) := by decide +kernel
theorem dX8_countEntries_8 : decode cX8_countEntries 8 = .ok (.iconst 0, 1) := by decide +kernel
theorem dX8_countEntries_9 : decode cX8_countEntries 9 = .ok (.istore 4, 2) := by decide +kernel
theorem dX8_countEntries_11 : decode cX8_countEntries 11 = .ok (.iload 4, 2) := by decide +kernel
theorem dX8_countEntries_13 : decode cX8_countEntries 13 = .ok (.iload_n 3, 1) := by decide +kernel
theorem dX8_countEntries_14 : decode cX8_countEntries 14 = .ok (.if_icmp .ge 27, 3) := by decide +kernel
theorem dX8_countEntries_17 : decode cX8_countEntries 17 = .ok (.iload_n 2, 1) := by decide +kernel
theorem dX8_countEntries_18 : decode cX8_countEntries 18 = .ok (.aload_n 0, 1) := by decide +kernel
theorem dX8_countEntries_19 : decode cX8_countEntries 19 = .ok (.iload_n 1, 1) := by decide +kernel
theorem dX8_countEntries_20 : decode cX8_countEntries 20 = .ok (.iload 4, 2) := by decide +kernel
theorem dX8_countEntries_22 : decode cX8_countEntries 22 = .ok (.invokevirtual 172, 3) := by decide +kernel
theorem dX8_countEntries_25 : decode cX8_countEntries 25 = .ok (.ifCond .ne 7, 3) := by decide +kernel
theorem dX8_countEntries_28 : decode cX8_countEntries 28 = .ok (.iconst 0, 1) := by decide +kernel
theorem dX8_countEntries_29 : decode cX8_countEntries 29 = .ok (.goto 4, 3) := by decide +kernel
theorem dX8_countEntries_32 : decode cX8_countEntries 32 = .ok (.iconst 1, 1) := by decide +kernel
theorem dX8_countEntries_33 : decode cX8_countEntries 33 = .ok (.iadd, 1) := by decide +kernel
theorem dX8_countEntries_34 : decode cX8_countEntries 34 = .ok (.istore_n 2, 1) := by decide +kernel
theorem dX8_countEntries_35 : decode cX8_countEntries 35 = .ok (.iinc 4 1, 3) := by decide +kernel
theorem dX8_countEntries_38 : decode cX8_countEntries 38 = .ok (.goto (-27), 3) := by decide +kernel
theorem dX8_countEntries_41 : decode cX8_countEntries 41 = .ok (.iload_n 2, 1) := by decide +kernel
theorem dX8_countEntries_42 : decode cX8_countEntries 42 = .ok (.ireturn, 1) := by decide +kernel
def J_X8_countEntries_33 (b0 fu : Nat) (rc11 : Nat → Int32 → Int32 → Int32 → Int32 → tM → Option ((Int32) × tM)) (x0 : Nat) (x1 : Int32) (x3 : Int32) (x4 : Int32) (s0 : Int32) (s1 : Int32) (σ : tM) : Option ((Int32) × tM) := ltb (((s0) + (s1) : Int32)) (fun y13 => ltb ((x4) + Int32.ofInt 1) (fun y14 => rc11 (x0) (x1) (y13) (x3) (y14) (σ)))
def L_X8_countEntries_11 (b0 fu : Nat)  : Nat → Nat → Int32 → Int32 → Int32 → Int32 → tM → Option ((Int32) × tM)
  | 0, _, _, _, _, _, _ => none
  | n + 1, x0, x1, x2, x3, x4, σ => ltb (L_X8_countEntries_11 b0 fu  n) (fun rc11 => if (x3) ≤ (x4) then some (x2, σ) else ckO b0 (σ) (x0) 8 (cll (m_X8_nameLength b0 fu (x0) (x1) (x4) (σ)) (fun v9 ρ10 => if (v9) = (0) then J_X8_countEntries_33 b0 fu rc11  (x0) (x1) (x3) (x4) (x2) (0) (ρ10) else J_X8_countEntries_33 b0 fu rc11  (x0) (x1) (x3) (x4) (x2) (1) (ρ10))))
def m_X8_countEntries (b0 fu : Nat) (a0 : Nat) (p0 : Int32) (σ : tM) : Option ((Int32) × tM) := grw σ (ckO b0 (σ) (a0) 8 (cll (m_X8_entries b0 fu (a0) (p0) (σ)) (fun v3 ρ4 => L_X8_countEntries_11 b0 fu  (fu) (a0) (p0) (0) (v3) (0) (ρ4))))
set_option maxRecDepth 100000 in
set_option maxHeartbeats 1000000 in
theorem j_X8_countEntries_33 {p : Program} {l : Launch} {e : Env} {s : State} {m : MethodId} {args : Array Value} {below : List Frame} {meth : Method} {c : Code} {D : va_G} {aC : Nat → ClassId} {b0 fu : Nat} {σ0 τ : tM} {v : Int32} {rc11 : Nat → Int32 → Int32 → Int32 → Int32 → tM → Option ((Int32) × tM)} (C : tCx p s m args meth c yX8_countEntries.cls cX8_countEntries 5 (some .int) D aC b0 σ0) (htab : ∀ x ∈ c.exceptionTable.toList, False) (hin : meth.name = yX8_countEntries.name) (hrc11 : ∀ (x0 : Nat) (x1 : Int32) (x2 : Int32) (x3 : Int32) (x4 : Int32) (ρ : tM), rc11 x0 x1 x2 x3 x4 ρ = some (v, τ) → tX p l e s m args below meth c 5 3 69 D aC b0 σ0 (.inl (some (.int v))) τ 11 [(0, .ref (x0)), (1, .int (x1)), (2, .int (x2)), (3, .int (x3)), (4, .int (x4))] [] ρ) {x0 : Nat} {x1 : Int32} {x3 : Int32} {x4 : Int32} {s0 : Int32} {s1 : Int32} {σ : tM} (hm : J_X8_countEntries_33 b0 fu rc11 x0 x1 x3 x4 s0 s1 σ = some (v, τ)) : tX p l e s m args below meth c 5 3 69 D aC b0 σ0 (.inl (some (.int v))) τ 33 [(0, .ref (x0)), (1, .int (x1)), (3, .int (x3)), (4, .int (x4))] [.int (s1), .int (s0)] σ := by
  unfold J_X8_countEntries_33 at hm
  refine zx_iadd C dX8_countEntries_33 ?_
  refine zx_topi (fun y13 hy13 => ?_)
  replace hm := ltb_e hm hy13
  refine zx_istore_n C [(2, .int (y13)), (0, .ref (x0)), (1, .int (x1)), (3, .int (x3)), (4, .int (x4))] dX8_countEntries_34 rfl (by decide) rfl ?_
  obtain ⟨y14, hy14⟩ : ∃ z : Int32, z = (x4) + Int32.ofInt 1 := ⟨_, rfl⟩
  replace hm := ltb_e hm hy14
  refine zx_iinc C [(4, .int (y14)), (2, .int (y13)), (0, .ref (x0)), (1, .int (x1)), (3, .int (x3))] dX8_countEntries_35 4 rfl hy14.symm (by decide) rfl ?_
  refine zx_goto C 11 dX8_countEntries_38 (by decide) ?_
  exact zx_lv [2, 3, 1, 4, 0] [(0, .ref (x0)), (1, .int (x1)), (2, .int (y13)), (3, .int (x3)), (4, .int (y14))] rfl (hrc11 _ _ _ _ _ _ hm)
set_option maxRecDepth 100000 in
set_option maxHeartbeats 1000000 in
theorem l_X8_countEntries_11 {p : Program} {l : Launch} {e : Env} {s : State} {m : MethodId} {args : Array Value} {below : List Frame} {meth : Method} {c : Code} {D : va_G} {aC : Nat → ClassId} {b0 fu : Nat} {σ0 τ : tM} {v : Int32}  (C : tCx p s m args meth c yX8_countEntries.cls cX8_countEntries 5 (some .int) D aC b0 σ0) (htab : ∀ x ∈ c.exceptionTable.toList, False) (hin : meth.name = yX8_countEntries.name)  : ∀ (n : Nat) (x0 : Nat) (x1 : Int32) (x2 : Int32) (x3 : Int32) (x4 : Int32) (σ : tM), L_X8_countEntries_11 b0 fu  n x0 x1 x2 x3 x4 σ = some (v, τ) → tX p l e s m args below meth c 5 3 69 D aC b0 σ0 (.inl (some (.int v))) τ 11 [(0, .ref (x0)), (1, .int (x1)), (2, .int (x2)), (3, .int (x3)), (4, .int (x4))] [] σ := by
  intro n
  induction n with
  | zero => intro x0 x1 x2 x3 x4 σ hm; unfold L_X8_countEntries_11 at hm; cases hm
  | succ n ih =>
    intro x0 x1 x2 x3 x4 σ hm
    unfold L_X8_countEntries_11 at hm
    obtain ⟨rc11, hrc⟩ : ∃ z, z = L_X8_countEntries_11 b0 fu  n := ⟨_, rfl⟩
    replace hm := ltb_e hm hrc
    rw [← hrc] at ih
    have hrc11 := ih
    clear ih hrc
    refine zx_iload C dX8_countEntries_11 4 rfl ?_
    refine zx_iload_n C dX8_countEntries_13 3 rfl ?_
    refine zx_icmp_ge C 41 dX8_countEntries_14 (by decide) (fun c6 => ?_) (fun c6 => ?_)
    · replace hm := ip_e hm c6
      refine zx_iload_n C dX8_countEntries_41 2 rfl ?_
      obtain ⟨rfl, rfl⟩ := ret_e hm
      exact zx_iret C rfl rfl rfl dX8_countEntries_42
    · replace hm := in_e hm c6
      refine zx_iload_n C dX8_countEntries_17 2 rfl ?_
      refine zx_aload_n C dX8_countEntries_18 0 rfl ?_
      refine zx_iload_n C dX8_countEntries_19 1 rfl ?_
      refine zx_iload C dX8_countEntries_20 4 rfl ?_
      obtain ⟨k7, i8, hm⟩ := ckO_e hm
      obtain ⟨v9, ρ10, h11, hm⟩ := cll_e hm
      refine zx_callV (σ := σ) C [.int (x1), .int (x4)] tC_8 k7 i8 Y_X8_nameLength W_4_166 W_4_167 W_4_168 (c_X8_nameLength h11) (by decide) (by decide) rfl (Nat.le_of_ble_eq_true rfl) dX8_countEntries_22 rfl ?_
      refine zx_if_ne C 32 dX8_countEntries_25 (by decide) (fun c12 => ?_) (fun c12 => ?_)
      · replace hm := in_e hm c12
        refine zx_iconst (v := 1) C dX8_countEntries_32 (by decide) ?_
        exact zx_lv [0, 1, 3, 4] [(0, .ref (x0)), (1, .int (x1)), (3, .int (x3)), (4, .int (x4))] rfl (j_X8_countEntries_33 C htab hin hrc11   hm)
      · replace hm := ip_e hm c12
        refine zx_iconst (v := 0) C dX8_countEntries_28 (by decide) ?_
        refine zx_goto C 33 dX8_countEntries_29 (by decide) ?_
        exact zx_lv [0, 1, 3, 4] [(0, .ref (x0)), (1, .int (x1)), (3, .int (x3)), (4, .int (x4))] rfl (j_X8_countEntries_33 C htab hin hrc11   hm)
set_option maxRecDepth 100000 in
set_option maxHeartbeats 1000000 in
theorem c_X8_countEntries {l : Launch} {D : va_G} {aC : Nat → ClassId} {b0 fu : Nat} {a0 : Nat} {p0 : Int32} {σ τ : tM} {v : Int32} (hm : m_X8_countEntries b0 fu a0 p0 σ = some (v, τ)) : tMt l D aC b0 yX8_countEntries (Cond.code yX8_countEntries cX8_countEntries 5 (some .int)) 3 69 [.ref (a0), .int (p0)] σ (.inl (some (.int v))) τ := by
  unfold m_X8_countEntries at hm
  obtain ⟨hg, hm⟩ := grw_e hm
  refine tMt_of (n := 0) rfl (Nat.le_of_ble_eq_true rfl) hg ?_
  intro p e s m below meth c C htab hin
  refine zx_lv [0, 1] [(0, .ref (a0)), (1, .int (p0))] rfl ?_
  refine zx_iconst (v := 0) C dX8_countEntries_0 (by decide) ?_
  refine zx_istore_n C [(2, .int (0)), (0, .ref (a0)), (1, .int (p0))] dX8_countEntries_1 rfl (by decide) rfl ?_
  refine zx_aload_n C dX8_countEntries_2 1 rfl ?_
  refine zx_iload_n C dX8_countEntries_3 2 rfl ?_
  obtain ⟨k1, i2, hm⟩ := ckO_e hm
  obtain ⟨v3, ρ4, h5, hm⟩ := cll_e hm
  refine zx_callV (σ := σ) C [.int (p0)] tC_8 k1 i2 Y_X8_entries W_4_104 W_4_105 W_4_106 (c_X8_entries h5) (by decide) (by decide) rfl (Nat.le_of_ble_eq_true rfl) dX8_countEntries_4 rfl ?_
  refine zx_istore_n C [(3, .int (v3)), (2, .int (0)), (0, .ref (a0)), (1, .int (p0))] dX8_countEntries_7 rfl (by decide) rfl ?_
  refine zx_iconst (v := 0) C dX8_countEntries_8 (by decide) ?_
  refine zx_istore C [(4, .int (0)), (3, .int (v3)), (2, .int (0)), (0, .ref (a0)), (1, .int (p0))] dX8_countEntries_9 (by decide) rfl ?_
  exact zx_lv [3, 4, 2, 1, 0] [(0, .ref (a0)), (1, .int (p0)), (2, .int (0)), (3, .int (v3)), (4, .int (0))] rfl (l_X8_countEntries_11 C htab hin  _ _ _ _ _ _ _ hm)
abbrev cX8_findLast : ByteArray := prog_10_method_46_code
def yX8_findLast : MethodName := ⟨"SyncTree$Tree", "findLast", "(ILSyncTree$PathText;)I"⟩
theorem Y_X8_findLast : tY yX8_findLast cX8_findLast 3 (some .int) 2 := ⟨W_4_148, W_1_4, ⟨by decide +kernel, by decide +kernel⟩, by decide +kernel⟩
theorem dX8_findLast_0 : decode cX8_findLast 0 = .ok (.aload_n 0, 1) := by decide +kernel
theorem dX8_findLast_1 : decode cX8_findLast 1 = .ok (.iload_n 1, 1) := by decide +kernel
theorem dX8_findLast_2 : decode cX8_findLast 2 = .ok (.aload_n 2, 1) := by decide +kernel
theorem dX8_findLast_3 : decode cX8_findLast 3 = .ok (.getfield 76, 3) := by decide +kernel
theorem dX8_findLast_6 : decode cX8_findLast 6 = .ok (.aload_n 2, 1) := by decide +kernel
theorem dX8_findLast_7 : decode cX8_findLast 7 = .ok (.getfield 175, 3) := by decide +kernel
theorem dX8_findLast_10 : decode cX8_findLast 10 = .ok (.aload_n 2, 1) := by decide +kernel
theorem dX8_findLast_11 : decode cX8_findLast 11 = .ok (.getfield 178, 3) := by decide +kernel
theorem dX8_findLast_14 : decode cX8_findLast 14 = .ok (.invokevirtual 181, 3) := by decide +kernel
theorem dX8_findLast_17 : decode cX8_findLast 17 = .ok (.ireturn, 1) := by decide +kernel
def m_X8_findLast (b0 fu : Nat) (a0 : Nat) (p0 : Int32) (p1 : Nat) (σ : tM) : Option ((Int32) × tM) := grw σ (ckO b0 (σ) (p1) 3 (osm (tA (σ) (p1) 0) (fun a3 => ckO b0 (σ) (a0) 8 (cll (m_X8_find b0 fu (a0) (p0) (a3) (tI (σ) (p1) 2) (tI (σ) (p1) 3) (σ)) (fun v7 ρ8 => some (v7, ρ8))))))
set_option maxRecDepth 100000 in
set_option maxHeartbeats 1000000 in
theorem c_X8_findLast {l : Launch} {D : va_G} {aC : Nat → ClassId} {b0 fu : Nat} {a0 : Nat} {p0 : Int32} {p1 : Nat} {σ τ : tM} {v : Int32} (hm : m_X8_findLast b0 fu a0 p0 p1 σ = some (v, τ)) : tMt l D aC b0 yX8_findLast (Cond.code yX8_findLast cX8_findLast 3 (some .int)) 3 76 [.ref (a0), .int (p0), .ref (p1)] σ (.inl (some (.int v))) τ := by
  unfold m_X8_findLast at hm
  obtain ⟨hg, hm⟩ := grw_e hm
  refine tMt_of (n := 0) rfl (Nat.le_of_ble_eq_true rfl) hg ?_
  intro p e s m below meth c C htab hin
  refine zx_lv [0, 1, 2] [(0, .ref (a0)), (1, .int (p0)), (2, .ref (p1))] rfl ?_
  refine zx_aload_n C dX8_findLast_0 0 rfl ?_
  refine zx_iload_n C dX8_findLast_1 1 rfl ?_
  refine zx_aload_n C dX8_findLast_2 2 rfl ?_
  obtain ⟨k1, i2, hm⟩ := ckO_e hm
  obtain ⟨a3, h4, hm⟩ := osm_e hm
  refine zx_get (j := 0) C tC_3 k1 i2 ⟨by decide, Or.inr ⟨_, W_2_58⟩⟩ dX8_findLast_3 (.ref a3) (rf_s h4) ?_
  refine zx_aload_n C dX8_findLast_6 2 rfl ?_
  refine zx_get (j := 2) C tC_3 k1 i2 ⟨by decide, Or.inr ⟨_, W_2_65⟩⟩ dX8_findLast_7 (.int (tI (σ) (p1) 2)) rfl ?_
  refine zx_aload_n C dX8_findLast_10 2 rfl ?_
  refine zx_get (j := 3) C tC_3 k1 i2 ⟨by decide, Or.inr ⟨_, W_2_68⟩⟩ dX8_findLast_11 (.int (tI (σ) (p1) 3)) rfl ?_
  obtain ⟨k5, i6, hm⟩ := ckO_e hm
  obtain ⟨v7, ρ8, h9, hm⟩ := cll_e hm
  refine zx_callV (σ := σ) C [.int (p0), .ref (a3), .int (tI (σ) (p1) 2), .int (tI (σ) (p1) 3)] tC_8 k5 i6 Y_X8_find W_4_149 W_4_101 W_4_102 (c_X8_find h9) (by decide) (by decide) rfl (Nat.le_of_ble_eq_true rfl) dX8_findLast_14 rfl ?_
  obtain ⟨rfl, rfl⟩ := ret_e hm
  exact zx_iret C rfl rfl rfl dX8_findLast_17
abbrev cX10_path : ByteArray := prog_1_method_5_code
def yX10_path : MethodName := ⟨"SyncTree", "path", "(II)I"⟩
theorem Y_X10_path : tY yX10_path cX10_path 4 (some .int) 2 := ⟨W_3_23, W_1_1, ⟨by decide +kernel, by decide +kernel⟩, by decide +kernel⟩
theorem dX10_path_0 : decode cX10_path 0 = .ok (.iload_n 1, 1) := by decide +kernel
theorem dX10_path_1 : decode cX10_path 1 = .ok (.ifCond .eq 8, 3) := by decide +kernel
theorem dX10_path_4 : decode cX10_path 4 = .ok (.iload_n 1, 1) := by decide +kernel
theorem dX10_path_5 : decode cX10_path 5 = .ok (.iconst 1, 1) := by decide +kernel
theorem dX10_path_6 : decode cX10_path 6 = .ok (.if_icmp .ne 18, 3) := by decide +kernel
theorem dX10_path_9 : decode cX10_path 9 = .ok (.aload_n 0, 1) := by decide +kernel
theorem dX10_path_10 : decode cX10_path 10 = .ok (.getfield 62, 3) := by decide +kernel
theorem dX10_path_13 : decode cX10_path 13 = .ok (.iload_n 2, 1) := by decide +kernel
theorem dX10_path_14 : decode cX10_path 14 = .ok (.invokevirtual 119, 3) := by decide +kernel
theorem dX10_path_17 : decode cX10_path 17 = .ok (.ifCond .eq 7, 3) := by decide +kernel
theorem dX10_path_20 : decode cX10_path 20 = .ok (.iconst 1, 1) := by decide +kernel
theorem dX10_path_21 : decode cX10_path 21 = .ok (.goto 4, 3) := by decide +kernel
theorem dX10_path_24 : decode cX10_path 24 = .ok (.iconst 0, 1) := by decide +kernel
theorem dX10_path_25 : decode cX10_path 25 = .ok (.istore_n 3, 1) := by decide +kernel
theorem dX10_path_26 : decode cX10_path 26 = .ok (.iload_n 3, 1) := by decide +kernel
theorem dX10_path_27 : decode cX10_path 27 = .ok (.ifCond .eq 22, 3) := by decide +kernel
theorem dX10_path_30 : decode cX10_path 30 = .ok (.iload_n 1, 1) := by decide +kernel
theorem dX10_path_31 : decode cX10_path 31 = .ok (.ifCond .ne 18, 3) := by decide +kernel
theorem dX10_path_34 : decode cX10_path 34 = .ok (.aload_n 0, 1) := by decide +kernel
theorem dX10_path_35 : decode cX10_path 35 = .ok (.getfield 69, 3) := by decide +kernel
theorem dX10_path_38 : decode cX10_path 38 = .ok (.aload_n 0, 1) := by decide +kernel
theorem dX10_path_39 : decode cX10_path 39 = .ok (.getfield 62, 3) := by decide +kernel
theorem dX10_path_42 : decode cX10_path 42 = .ok (.iload_n 2, 1) := by decide +kernel
theorem dX10_path_43 : decode cX10_path 43 = .ok (.invokevirtual 123, 3) := by decide +kernel
theorem dX10_path_46 : decode cX10_path 46 = .ok (.goto 19, 3) := by decide +kernel
theorem dX10_path_49 : decode cX10_path 49 = .ok (.iload_n 3, 1) := by decide +kernel
theorem dX10_path_50 : decode cX10_path 50 = .ok (.ifCond .eq 15, 3) := by decide +kernel
theorem dX10_path_53 : decode cX10_path 53 = .ok (.aload_n 0, 1) := by decide +kernel
theorem dX10_path_54 : decode cX10_path 54 = .ok (.getfield 73, 3) := by decide +kernel
theorem dX10_path_57 : decode cX10_path 57 = .ok (.aload_n 0, 1) := by decide +kernel
theorem dX10_path_58 : decode cX10_path 58 = .ok (.getfield 62, 3) := by decide +kernel
theorem dX10_path_61 : decode cX10_path 61 = .ok (.iload_n 2, 1) := by decide +kernel
theorem dX10_path_62 : decode cX10_path 62 = .ok (.invokevirtual 123, 3) := by decide +kernel
theorem dX10_path_65 : decode cX10_path 65 = .ok (.aload_n 0, 1) := by decide +kernel
theorem dX10_path_66 : decode cX10_path 66 = .ok (.getfield 62, 3) := by decide +kernel
theorem dX10_path_69 : decode cX10_path 69 = .ok (.invokevirtual 98, 3) := by decide +kernel
theorem dX10_path_72 : decode cX10_path 72 = .ok (.iload_n 3, 1) := by decide +kernel
theorem dX10_path_73 : decode cX10_path 73 = .ok (.ifCond .eq 7, 3) := by decide +kernel
theorem dX10_path_76 : decode cX10_path 76 = .ok (.iload_n 2, 1) := by decide +kernel
theorem dX10_path_77 : decode cX10_path 77 = .ok (.goto 5, 3) := by decide +kernel
theorem dX10_path_80 : decode cX10_path 80 = .ok (.bipush (-9), 2) := by decide +kernel
theorem dX10_path_82 : decode cX10_path 82 = .ok (.ireturn, 1) := by decide +kernel
def J_X10_path_82 (b0 fu : Nat)  (s0 : Int32) (σ : tM) : Option ((Int32) × tM) := some (s0, σ)
def J_X10_path_65 (b0 fu : Nat)  (x0 : Nat) (x2 : Int32) (x3 : Int32) (σ : tM) : Option ((Int32) × tM) := ckO b0 (σ) (x0) 10 (osm (tA (σ) (x0) 6) (fun a16 => ckO b0 (σ) (a16) 6 (cll (m_X6_useUp b0 fu (a16) (σ)) (fun v20 ρ21 => if (x3) = (0) then J_X10_path_82 b0 fu   ((-9)) (ρ21) else J_X10_path_82 b0 fu   (x2) (ρ21)))))
def J_X10_path_49 (b0 fu : Nat)  (x0 : Nat) (x2 : Int32) (x3 : Int32) (σ : tM) : Option ((Int32) × tM) := if (x3) = (0) then J_X10_path_65 b0 fu   (x0) (x2) (x3) (σ) else ckO b0 (σ) (x0) 10 (osm (tA (σ) (x0) 8) (fun a26 => osm (tA (σ) (x0) 6) (fun a28 => ckO b0 (σ) (a26) 3 (cll (m_X3_take b0 fu (a26) (a28) (x2) (σ)) (fun v32 ρ33 => J_X10_path_65 b0 fu   (x0) (x2) (x3) (ρ33))))))
def J_X10_path_25 (b0 fu : Nat)  (x0 : Nat) (x1 : Int32) (x2 : Int32) (s0 : Int32) (σ : tM) : Option ((Int32) × tM) := if (s0) = (0) then J_X10_path_49 b0 fu   (x0) (x2) (s0) (σ) else if (x1) = (0) then ckO b0 (σ) (x0) 10 (osm (tA (σ) (x0) 7) (fun a38 => osm (tA (σ) (x0) 6) (fun a40 => ckO b0 (σ) (a38) 3 (cll (m_X3_take b0 fu (a38) (a40) (x2) (σ)) (fun v44 ρ45 => J_X10_path_65 b0 fu   (x0) (x2) (s0) (ρ45)))))) else J_X10_path_49 b0 fu   (x0) (x2) (s0) (σ)
def J_X10_path_24 (b0 fu : Nat)  (x0 : Nat) (x1 : Int32) (x2 : Int32) (σ : tM) : Option ((Int32) × tM) := J_X10_path_25 b0 fu   (x0) (x1) (x2) (0) (σ)
def J_X10_path_9 (b0 fu : Nat)  (x0 : Nat) (x1 : Int32) (x2 : Int32) (σ : tM) : Option ((Int32) × tM) := ckO b0 (σ) (x0) 10 (osm (tA (σ) (x0) 6) (fun a4 => ckO b0 (σ) (a4) 6 (cll (m_X6_canBePath b0 fu (a4) (x2) (σ)) (fun v8 ρ9 => if (v8) = (0) then J_X10_path_24 b0 fu   (x0) (x1) (x2) (ρ9) else J_X10_path_25 b0 fu   (x0) (x1) (x2) (1) (ρ9)))))
def m_X10_path (b0 fu : Nat) (a0 : Nat) (p0 : Int32) (p1 : Int32) (σ : tM) : Option ((Int32) × tM) := grw σ (if (p0) = (0) then J_X10_path_9 b0 fu   (a0) (p0) (p1) (σ) else if (p0) = (1) then J_X10_path_9 b0 fu   (a0) (p0) (p1) (σ) else J_X10_path_24 b0 fu   (a0) (p0) (p1) (σ))
set_option maxRecDepth 100000 in
set_option maxHeartbeats 1000000 in
theorem j_X10_path_82 {p : Program} {l : Launch} {e : Env} {s : State} {m : MethodId} {args : Array Value} {below : List Frame} {meth : Method} {c : Code} {D : va_G} {aC : Nat → ClassId} {b0 fu : Nat} {σ0 τ : tM} {v : Int32}  (C : tCx p s m args meth c yX10_path.cls cX10_path 4 (some .int) D aC b0 σ0) (htab : ∀ x ∈ c.exceptionTable.toList, False) (hin : meth.name = yX10_path.name)  {s0 : Int32} {σ : tM} (hm : J_X10_path_82 b0 fu  s0 σ = some (v, τ)) : tX p l e s m args below meth c 4 2 44 D aC b0 σ0 (.inl (some (.int v))) τ 82 [] [.int (s0)] σ := by
  unfold J_X10_path_82 at hm
  obtain ⟨rfl, rfl⟩ := ret_e hm
  exact zx_iret C rfl rfl rfl dX10_path_82
set_option maxRecDepth 100000 in
set_option maxHeartbeats 1000000 in
theorem j_X10_path_65 {p : Program} {l : Launch} {e : Env} {s : State} {m : MethodId} {args : Array Value} {below : List Frame} {meth : Method} {c : Code} {D : va_G} {aC : Nat → ClassId} {b0 fu : Nat} {σ0 τ : tM} {v : Int32}  (C : tCx p s m args meth c yX10_path.cls cX10_path 4 (some .int) D aC b0 σ0) (htab : ∀ x ∈ c.exceptionTable.toList, False) (hin : meth.name = yX10_path.name)  {x0 : Nat} {x2 : Int32} {x3 : Int32} {σ : tM} (hm : J_X10_path_65 b0 fu  x0 x2 x3 σ = some (v, τ)) : tX p l e s m args below meth c 4 2 44 D aC b0 σ0 (.inl (some (.int v))) τ 65 [(0, .ref (x0)), (2, .int (x2)), (3, .int (x3))] [] σ := by
  unfold J_X10_path_65 at hm
  refine zx_aload_n C dX10_path_65 0 rfl ?_
  obtain ⟨k14, i15, hm⟩ := ckO_e hm
  obtain ⟨a16, h17, hm⟩ := osm_e hm
  refine zx_get (j := 6) C tC_10 k14 i15 ⟨by decide, Or.inl W_2_219⟩ dX10_path_66 (.ref a16) (rf_s h17) ?_
  obtain ⟨k18, i19, hm⟩ := ckO_e hm
  obtain ⟨v20, ρ21, h22, hm⟩ := cll_e hm
  refine zx_callV (σ := σ) C [] tC_6 k18 i19 Y_X6_useUp W_2_202 W_2_203 W_2_204 (c_X6_useUp h22) (by decide) (by decide) rfl (Nat.le_of_ble_eq_true rfl) dX10_path_69 rfl ?_
  refine zx_iload_n C dX10_path_72 2 rfl ?_
  refine zx_if_eq C 80 dX10_path_73 (by decide) (fun c23 => ?_) (fun c23 => ?_)
  · replace hm := ip_e hm c23
    refine zx_bipush (v := (-9)) C dX10_path_80 (by decide) ?_
    exact zx_lv [] [] rfl (j_X10_path_82 C htab hin    hm)
  · replace hm := in_e hm c23
    refine zx_iload_n C dX10_path_76 1 rfl ?_
    refine zx_goto C 82 dX10_path_77 (by decide) ?_
    exact zx_lv [] [] rfl (j_X10_path_82 C htab hin    hm)
set_option maxRecDepth 100000 in
set_option maxHeartbeats 1000000 in
theorem j_X10_path_49 {p : Program} {l : Launch} {e : Env} {s : State} {m : MethodId} {args : Array Value} {below : List Frame} {meth : Method} {c : Code} {D : va_G} {aC : Nat → ClassId} {b0 fu : Nat} {σ0 τ : tM} {v : Int32}  (C : tCx p s m args meth c yX10_path.cls cX10_path 4 (some .int) D aC b0 σ0) (htab : ∀ x ∈ c.exceptionTable.toList, False) (hin : meth.name = yX10_path.name)  {x0 : Nat} {x2 : Int32} {x3 : Int32} {σ : tM} (hm : J_X10_path_49 b0 fu  x0 x2 x3 σ = some (v, τ)) : tX p l e s m args below meth c 4 2 44 D aC b0 σ0 (.inl (some (.int v))) τ 49 [(0, .ref (x0)), (2, .int (x2)), (3, .int (x3))] [] σ := by
  unfold J_X10_path_49 at hm
  refine zx_iload_n C dX10_path_49 2 rfl ?_
  refine zx_if_eq C 65 dX10_path_50 (by decide) (fun c13 => ?_) (fun c13 => ?_)
  · replace hm := ip_e hm c13
    exact zx_lv [0, 1, 2] [(0, .ref (x0)), (2, .int (x2)), (3, .int (x3))] rfl (j_X10_path_65 C htab hin    hm)
  · replace hm := in_e hm c13
    refine zx_aload_n C dX10_path_53 0 rfl ?_
    obtain ⟨k24, i25, hm⟩ := ckO_e hm
    obtain ⟨a26, h27, hm⟩ := osm_e hm
    refine zx_get (j := 8) C tC_10 k24 i25 ⟨by decide, Or.inl W_2_221⟩ dX10_path_54 (.ref a26) (rf_s h27) ?_
    refine zx_aload_n C dX10_path_57 0 rfl ?_
    obtain ⟨a28, h29, hm⟩ := osm_e hm
    refine zx_get (j := 6) C tC_10 k24 i25 ⟨by decide, Or.inl W_2_219⟩ dX10_path_58 (.ref a28) (rf_s h29) ?_
    refine zx_iload_n C dX10_path_61 1 rfl ?_
    obtain ⟨k30, i31, hm⟩ := ckO_e hm
    obtain ⟨v32, ρ33, h34, hm⟩ := cll_e hm
    refine zx_callV (σ := σ) C [.ref (a28), .int (x2)] tC_3 k30 i31 Y_X3_take W_3_28 W_3_29 W_3_30 (c_X3_take h34) (by decide) (by decide) rfl (Nat.le_of_ble_eq_true rfl) dX10_path_62 rfl ?_
    exact zx_lv [0, 1, 2] [(0, .ref (x0)), (2, .int (x2)), (3, .int (x3))] rfl (j_X10_path_65 C htab hin    hm)
set_option maxRecDepth 100000 in
set_option maxHeartbeats 1000000 in
theorem j_X10_path_25 {p : Program} {l : Launch} {e : Env} {s : State} {m : MethodId} {args : Array Value} {below : List Frame} {meth : Method} {c : Code} {D : va_G} {aC : Nat → ClassId} {b0 fu : Nat} {σ0 τ : tM} {v : Int32}  (C : tCx p s m args meth c yX10_path.cls cX10_path 4 (some .int) D aC b0 σ0) (htab : ∀ x ∈ c.exceptionTable.toList, False) (hin : meth.name = yX10_path.name)  {x0 : Nat} {x1 : Int32} {x2 : Int32} {s0 : Int32} {σ : tM} (hm : J_X10_path_25 b0 fu  x0 x1 x2 s0 σ = some (v, τ)) : tX p l e s m args below meth c 4 2 44 D aC b0 σ0 (.inl (some (.int v))) τ 25 [(0, .ref (x0)), (1, .int (x1)), (2, .int (x2))] [.int (s0)] σ := by
  unfold J_X10_path_25 at hm
  refine zx_istore_n C [(3, .int (s0)), (0, .ref (x0)), (1, .int (x1)), (2, .int (x2))] dX10_path_25 rfl (by decide) rfl ?_
  refine zx_iload_n C dX10_path_26 0 rfl ?_
  refine zx_if_eq C 49 dX10_path_27 (by decide) (fun c12 => ?_) (fun c12 => ?_)
  · replace hm := ip_e hm c12
    exact zx_lv [1, 3, 0] [(0, .ref (x0)), (2, .int (x2)), (3, .int (s0))] rfl (j_X10_path_49 C htab hin    hm)
  · replace hm := in_e hm c12
    refine zx_iload_n C dX10_path_30 2 rfl ?_
    refine zx_if_ne C 49 dX10_path_31 (by decide) (fun c35 => ?_) (fun c35 => ?_)
    · replace hm := in_e hm c35
      exact zx_lv [1, 3, 0] [(0, .ref (x0)), (2, .int (x2)), (3, .int (s0))] rfl (j_X10_path_49 C htab hin    hm)
    · replace hm := ip_e hm c35
      refine zx_aload_n C dX10_path_34 1 rfl ?_
      obtain ⟨k36, i37, hm⟩ := ckO_e hm
      obtain ⟨a38, h39, hm⟩ := osm_e hm
      refine zx_get (j := 7) C tC_10 k36 i37 ⟨by decide, Or.inl W_2_220⟩ dX10_path_35 (.ref a38) (rf_s h39) ?_
      refine zx_aload_n C dX10_path_38 1 rfl ?_
      obtain ⟨a40, h41, hm⟩ := osm_e hm
      refine zx_get (j := 6) C tC_10 k36 i37 ⟨by decide, Or.inl W_2_219⟩ dX10_path_39 (.ref a40) (rf_s h41) ?_
      refine zx_iload_n C dX10_path_42 3 rfl ?_
      obtain ⟨k42, i43, hm⟩ := ckO_e hm
      obtain ⟨v44, ρ45, h46, hm⟩ := cll_e hm
      refine zx_callV (σ := σ) C [.ref (a40), .int (x2)] tC_3 k42 i43 Y_X3_take W_3_28 W_3_29 W_3_30 (c_X3_take h46) (by decide) (by decide) rfl (Nat.le_of_ble_eq_true rfl) dX10_path_43 rfl ?_
      refine zx_goto C 65 dX10_path_46 (by decide) ?_
      exact zx_lv [1, 3, 0] [(0, .ref (x0)), (2, .int (x2)), (3, .int (s0))] rfl (j_X10_path_65 C htab hin    hm)
set_option maxRecDepth 100000 in
set_option maxHeartbeats 1000000 in
theorem j_X10_path_24 {p : Program} {l : Launch} {e : Env} {s : State} {m : MethodId} {args : Array Value} {below : List Frame} {meth : Method} {c : Code} {D : va_G} {aC : Nat → ClassId} {b0 fu : Nat} {σ0 τ : tM} {v : Int32}  (C : tCx p s m args meth c yX10_path.cls cX10_path 4 (some .int) D aC b0 σ0) (htab : ∀ x ∈ c.exceptionTable.toList, False) (hin : meth.name = yX10_path.name)  {x0 : Nat} {x1 : Int32} {x2 : Int32} {σ : tM} (hm : J_X10_path_24 b0 fu  x0 x1 x2 σ = some (v, τ)) : tX p l e s m args below meth c 4 2 44 D aC b0 σ0 (.inl (some (.int v))) τ 24 [(0, .ref (x0)), (1, .int (x1)), (2, .int (x2))] [] σ := by
  unfold J_X10_path_24 at hm
  refine zx_iconst (v := 0) C dX10_path_24 (by decide) ?_
  exact zx_lv [0, 1, 2] [(0, .ref (x0)), (1, .int (x1)), (2, .int (x2))] rfl (j_X10_path_25 C htab hin    hm)
set_option maxRecDepth 100000 in
set_option maxHeartbeats 1000000 in
theorem j_X10_path_9 {p : Program} {l : Launch} {e : Env} {s : State} {m : MethodId} {args : Array Value} {below : List Frame} {meth : Method} {c : Code} {D : va_G} {aC : Nat → ClassId} {b0 fu : Nat} {σ0 τ : tM} {v : Int32}  (C : tCx p s m args meth c yX10_path.cls cX10_path 4 (some .int) D aC b0 σ0) (htab : ∀ x ∈ c.exceptionTable.toList, False) (hin : meth.name = yX10_path.name)  {x0 : Nat} {x1 : Int32} {x2 : Int32} {σ : tM} (hm : J_X10_path_9 b0 fu  x0 x1 x2 σ = some (v, τ)) : tX p l e s m args below meth c 4 2 44 D aC b0 σ0 (.inl (some (.int v))) τ 9 [(0, .ref (x0)), (1, .int (x1)), (2, .int (x2))] [] σ := by
  unfold J_X10_path_9 at hm
  refine zx_aload_n C dX10_path_9 0 rfl ?_
  obtain ⟨k2, i3, hm⟩ := ckO_e hm
  obtain ⟨a4, h5, hm⟩ := osm_e hm
  refine zx_get (j := 6) C tC_10 k2 i3 ⟨by decide, Or.inl W_2_219⟩ dX10_path_10 (.ref a4) (rf_s h5) ?_
  refine zx_iload_n C dX10_path_13 2 rfl ?_
  obtain ⟨k6, i7, hm⟩ := ckO_e hm
  obtain ⟨v8, ρ9, h10, hm⟩ := cll_e hm
  refine zx_callV (σ := σ) C [.int (x2)] tC_6 k6 i7 Y_X6_canBePath W_3_24 W_3_25 W_3_26 (c_X6_canBePath h10) (by decide) (by decide) rfl (Nat.le_of_ble_eq_true rfl) dX10_path_14 rfl ?_
  refine zx_if_eq C 24 dX10_path_17 (by decide) (fun c11 => ?_) (fun c11 => ?_)
  · replace hm := ip_e hm c11
    exact zx_lv [0, 1, 2] [(0, .ref (x0)), (1, .int (x1)), (2, .int (x2))] rfl (j_X10_path_24 C htab hin    hm)
  · replace hm := in_e hm c11
    refine zx_iconst (v := 1) C dX10_path_20 (by decide) ?_
    refine zx_goto C 25 dX10_path_21 (by decide) ?_
    exact zx_lv [0, 1, 2] [(0, .ref (x0)), (1, .int (x1)), (2, .int (x2))] rfl (j_X10_path_25 C htab hin    hm)
set_option maxRecDepth 100000 in
set_option maxHeartbeats 1000000 in
theorem c_X10_path {l : Launch} {D : va_G} {aC : Nat → ClassId} {b0 fu : Nat} {a0 : Nat} {p0 : Int32} {p1 : Int32} {σ τ : tM} {v : Int32} (hm : m_X10_path b0 fu a0 p0 p1 σ = some (v, τ)) : tMt l D aC b0 yX10_path (Cond.code yX10_path cX10_path 4 (some .int)) 2 44 [.ref (a0), .int (p0), .int (p1)] σ (.inl (some (.int v))) τ := by
  unfold m_X10_path at hm
  obtain ⟨hg, hm⟩ := grw_e hm
  refine tMt_of (n := 0) rfl (Nat.le_of_ble_eq_true rfl) hg ?_
  intro p e s m below meth c C htab hin
  refine zx_lv [0, 1, 2] [(0, .ref (a0)), (1, .int (p0)), (2, .int (p1))] rfl ?_
  refine zx_iload_n C dX10_path_0 1 rfl ?_
  refine zx_if_eq C 9 dX10_path_1 (by decide) (fun c1 => ?_) (fun c1 => ?_)
  · replace hm := ip_e hm c1
    exact zx_lv [0, 1, 2] [(0, .ref (a0)), (1, .int (p0)), (2, .int (p1))] rfl (j_X10_path_9 C htab hin    hm)
  · replace hm := in_e hm c1
    refine zx_iload_n C dX10_path_4 1 rfl ?_
    refine zx_iconst (v := 1) C dX10_path_5 (by decide) ?_
    refine zx_icmp_ne C 24 dX10_path_6 (by decide) (fun c47 => ?_) (fun c47 => ?_)
    · replace hm := in_e hm c47
      exact zx_lv [0, 1, 2] [(0, .ref (a0)), (1, .int (p0)), (2, .int (p1))] rfl (j_X10_path_24 C htab hin    hm)
    · replace hm := ip_e hm c47
      exact zx_lv [0, 1, 2] [(0, .ref (a0)), (1, .int (p0)), (2, .int (p1))] rfl (j_X10_path_9 C htab hin    hm)
abbrev cX10_refuseMove : ByteArray := prog_1_method_16_code
def yX10_refuseMove : MethodName := ⟨"SyncTree", "refuseMove", "(III)I"⟩
theorem Y_X10_refuseMove : tY yX10_refuseMove cX10_refuseMove 4 (some .int) 3 := ⟨W_5_109, W_1_1, ⟨by decide +kernel, by decide +kernel⟩, by decide +kernel⟩
theorem dX10_refuseMove_0 : decode cX10_refuseMove 0 = .ok (.aload_n 0, 1) := by decide +kernel
theorem dX10_refuseMove_1 : decode cX10_refuseMove 1 = .ok (.getfield 28, 3) := by decide +kernel
theorem dX10_refuseMove_4 : decode cX10_refuseMove 4 = .ok (.iload_n 1, 1) := by decide +kernel
theorem dX10_refuseMove_5 : decode cX10_refuseMove 5 = .ok (.invokevirtual 168, 3) := by decide +kernel
theorem dX10_refuseMove_8 : decode cX10_refuseMove 8 = .ok (.iconst 2, 1) := by decide +kernel
theorem dX10_refuseMove_9 : decode cX10_refuseMove 9 = .ok (.if_icmp .ne 55, 3) := by decide +kernel
theorem dX10_refuseMove_12 : decode cX10_refuseMove 12 = .ok (.aload_n 0, 1) := by decide +kernel
theorem dX10_refuseMove_13 : decode cX10_refuseMove 13 = .ok (.getfield 28, 3) := by decide +kernel
theorem dX10_refuseMove_16 : decode cX10_refuseMove 16 = .ok (.iload_n 2, 1) := by decide +kernel
theorem dX10_refuseMove_17 : decode cX10_refuseMove 17 = .ok (.iload_n 1, 1) := by decide +kernel
theorem dX10_refuseMove_18 : decode cX10_refuseMove 18 = .ok (.invokevirtual 211, 3) := by decide +kernel
theorem dX10_refuseMove_21 : decode cX10_refuseMove 21 = .ok (.ifCond .eq 6, 3) := by decide +kernel
theorem dX10_refuseMove_24 : decode cX10_refuseMove 24 = .ok (.bipush (-9), 2) := by decide +kernel
theorem dX10_refuseMove_26 : decode cX10_refuseMove 26 = .ok (.ireturn, 1) := by decide +kernel
theorem dX10_refuseMove_27 : decode cX10_refuseMove 27 = .ok (.iload_n 3, 1) := by decide +kernel
theorem dX10_refuseMove_28 : decode cX10_refuseMove 28 = .ok (.ifCond .lt 18, 3) := by decide +kernel
theorem dX10_refuseMove_31 : decode cX10_refuseMove 31 = .ok (.aload_n 0, 1) := by decide +kernel
theorem dX10_refuseMove_32 : decode cX10_refuseMove 32 = .ok (.getfield 28, 3) := by decide +kernel
theorem dX10_refuseMove_35 : decode cX10_refuseMove 35 = .ok (.iload_n 3, 1) := by decide +kernel
theorem dX10_refuseMove_36 : decode cX10_refuseMove 36 = .ok (.invokevirtual 168, 3) := by decide +kernel
theorem dX10_refuseMove_39 : decode cX10_refuseMove 39 = .ok (.iconst 2, 1) := by decide +kernel
theorem dX10_refuseMove_40 : decode cX10_refuseMove 40 = .ok (.if_icmp .eq 6, 3) := by decide +kernel
theorem dX10_refuseMove_43 : decode cX10_refuseMove 43 = .ok (.bipush (-3), 2) := by decide +kernel
theorem dX10_refuseMove_45 : decode cX10_refuseMove 45 = .ok (.ireturn, 1) := by decide +kernel
theorem dX10_refuseMove_46 : decode cX10_refuseMove 46 = .ok (.iload_n 3, 1) := by decide +kernel
theorem dX10_refuseMove_47 : decode cX10_refuseMove 47 = .ok (.ifCond .lt 36, 3) := by decide +kernel
theorem dX10_refuseMove_50 : decode cX10_refuseMove 50 = .ok (.aload_n 0, 1) := by decide +kernel
theorem dX10_refuseMove_51 : decode cX10_refuseMove 51 = .ok (.getfield 28, 3) := by decide +kernel
theorem dX10_refuseMove_54 : decode cX10_refuseMove 54 = .ok (.iload_n 3, 1) := by decide +kernel
theorem dX10_refuseMove_55 : decode cX10_refuseMove 55 = .ok (.invokevirtual 193, 3) := by decide +kernel
theorem dX10_refuseMove_58 : decode cX10_refuseMove 58 = .ok (.ifCond .eq 25, 3) := by decide +kernel
theorem dX10_refuseMove_61 : decode cX10_refuseMove 61 = .ok (.bipush (-5), 2) := by decide +kernel
theorem dX10_refuseMove_63 : decode cX10_refuseMove 63 = .ok (.ireturn, 1) := by decide +kernel
theorem dX10_refuseMove_64 : decode cX10_refuseMove 64 = .ok (.iload_n 3, 1) := by decide +kernel
theorem dX10_refuseMove_65 : decode cX10_refuseMove 65 = .ok (.ifCond .lt 18, 3) := by decide +kernel
theorem dX10_refuseMove_68 : decode cX10_refuseMove 68 = .ok (.aload_n 0, 1) := by decide +kernel
theorem dX10_refuseMove_69 : decode cX10_refuseMove 69 = .ok (.getfield 28, 3) := by decide +kernel
theorem dX10_refuseMove_72 : decode cX10_refuseMove 72 = .ok (.iload_n 3, 1) := by decide +kernel
theorem dX10_refuseMove_73 : decode cX10_refuseMove 73 = .ok (.invokevirtual 168, 3) := by decide +kernel
theorem dX10_refuseMove_76 : decode cX10_refuseMove 76 = .ok (.iconst 2, 1) := by decide +kernel
theorem dX10_refuseMove_77 : decode cX10_refuseMove 77 = .ok (.if_icmp .ne 6, 3) := by decide +kernel
theorem dX10_refuseMove_80 : decode cX10_refuseMove 80 = .ok (.bipush (-4), 2) := by decide +kernel
theorem dX10_refuseMove_82 : decode cX10_refuseMove 82 = .ok (.ireturn, 1) := by decide +kernel
theorem dX10_refuseMove_83 : decode cX10_refuseMove 83 = .ok (.iload_n 3, 1) := by decide +kernel
theorem dX10_refuseMove_84 : decode cX10_refuseMove 84 = .ok (.ifCond .ge 19, 3) := by decide +kernel
theorem dX10_refuseMove_87 : decode cX10_refuseMove 87 = .ok (.aload_n 0, 1) := by decide +kernel
theorem dX10_refuseMove_88 : decode cX10_refuseMove 88 = .ok (.getfield 28, 3) := by decide +kernel
theorem dX10_refuseMove_91 : decode cX10_refuseMove 91 = .ok (.iload_n 2, 1) := by decide +kernel
theorem dX10_refuseMove_92 : decode cX10_refuseMove 92 = .ok (.invokevirtual 142, 3) := by decide +kernel
theorem dX10_refuseMove_95 : decode cX10_refuseMove 95 = .ok (.ifCond .ne 8, 3) := by decide +kernel
theorem dX10_refuseMove_98 : decode cX10_refuseMove 98 = .ok (.bipush (-6), 2) := by decide +kernel
theorem dX10_refuseMove_100 : decode cX10_refuseMove 100 = .ok (.goto 4, 3) := by decide +kernel
theorem dX10_refuseMove_103 : decode cX10_refuseMove 103 = .ok (.iconst 0, 1) := by decide +kernel
theorem dX10_refuseMove_104 : decode cX10_refuseMove 104 = .ok (.ireturn, 1) := by decide +kernel
def J_X10_refuseMove_104 (b0 fu : Nat)  (s0 : Int32) (σ : tM) : Option ((Int32) × tM) := some (s0, σ)
def J_X10_refuseMove_103 (b0 fu : Nat)   (σ : tM) : Option ((Int32) × tM) := J_X10_refuseMove_104 b0 fu   (0) (σ)
def J_X10_refuseMove_83 (b0 fu : Nat)  (x0 : Nat) (x2 : Int32) (x3 : Int32) (σ : tM) : Option ((Int32) × tM) := if (0) ≤ (x3) then J_X10_refuseMove_103 b0 fu    (σ) else ckO b0 (σ) (x0) 10 (osm (tA (σ) (x0) 2) (fun a15 => ckO b0 (σ) (a15) 8 (cll (m_X8_hasPlaceForEntry b0 fu (a15) (x2) (σ)) (fun v19 ρ20 => if (v19) = (0) then J_X10_refuseMove_104 b0 fu   ((-6)) (ρ20) else J_X10_refuseMove_103 b0 fu    (ρ20)))))
def J_X10_refuseMove_46 (b0 fu : Nat)  (x0 : Nat) (x2 : Int32) (x3 : Int32) (σ : tM) : Option ((Int32) × tM) := if (x3) < (0) then J_X10_refuseMove_83 b0 fu   (x0) (x2) (x3) (σ) else ckO b0 (σ) (x0) 10 (osm (tA (σ) (x0) 2) (fun a47 => ckO b0 (σ) (a47) 8 (cll (m_X8_countEntries b0 fu (a47) (x3) (σ)) (fun v51 ρ52 => if (v51) = (0) then J_X10_refuseMove_83 b0 fu   (x0) (x2) (x3) (ρ52) else some ((-5), ρ52)))))
def m_X10_refuseMove (b0 fu : Nat) (a0 : Nat) (p0 : Int32) (p1 : Int32) (p2 : Int32) (σ : tM) : Option ((Int32) × tM) := grw σ (ckO b0 (σ) (a0) 10 (osm (tA (σ) (a0) 2) (fun a3 => ckO b0 (σ) (a3) 8 (cll (m_X8_kind b0 fu (a3) (p0) (σ)) (fun v7 ρ8 => if (v7) = (2) then ckO b0 (ρ8) (a0) 10 (osm (tA (ρ8) (a0) 2) (fun a35 => ckO b0 (ρ8) (a35) 8 (cll (m_X8_isWithin b0 fu (a35) (p1) (p0) (ρ8)) (fun v39 ρ40 => if (v39) = (0) then if (p2) < (0) then J_X10_refuseMove_46 b0 fu   (a0) (p1) (p2) (ρ40) else ckO b0 (ρ40) (a0) 10 (osm (tA (ρ40) (a0) 2) (fun a57 => ckO b0 (ρ40) (a57) 8 (cll (m_X8_kind b0 fu (a57) (p2) (ρ40)) (fun v61 ρ62 => if (v61) = (2) then J_X10_refuseMove_46 b0 fu   (a0) (p1) (p2) (ρ62) else some ((-3), ρ62))))) else some ((-9), ρ40))))) else if (p2) < (0) then J_X10_refuseMove_83 b0 fu   (a0) (p1) (p2) (ρ8) else ckO b0 (ρ8) (a0) 10 (osm (tA (ρ8) (a0) 2) (fun a25 => ckO b0 (ρ8) (a25) 8 (cll (m_X8_kind b0 fu (a25) (p2) (ρ8)) (fun v29 ρ30 => if (v29) = (2) then some ((-4), ρ30) else J_X10_refuseMove_83 b0 fu   (a0) (p1) (p2) (ρ30))))))))))
set_option maxRecDepth 100000 in
set_option maxHeartbeats 1000000 in
theorem j_X10_refuseMove_104 {p : Program} {l : Launch} {e : Env} {s : State} {m : MethodId} {args : Array Value} {below : List Frame} {meth : Method} {c : Code} {D : va_G} {aC : Nat → ClassId} {b0 fu : Nat} {σ0 τ : tM} {v : Int32}  (C : tCx p s m args meth c yX10_refuseMove.cls cX10_refuseMove 4 (some .int) D aC b0 σ0) (htab : ∀ x ∈ c.exceptionTable.toList, False) (hin : meth.name = yX10_refuseMove.name)  {s0 : Int32} {σ : tM} (hm : J_X10_refuseMove_104 b0 fu  s0 σ = some (v, τ)) : tX p l e s m args below meth c 4 5 114 D aC b0 σ0 (.inl (some (.int v))) τ 104 [] [.int (s0)] σ := by
  unfold J_X10_refuseMove_104 at hm
  obtain ⟨rfl, rfl⟩ := ret_e hm
  exact zx_iret C rfl rfl rfl dX10_refuseMove_104
set_option maxRecDepth 100000 in
set_option maxHeartbeats 1000000 in
theorem j_X10_refuseMove_103 {p : Program} {l : Launch} {e : Env} {s : State} {m : MethodId} {args : Array Value} {below : List Frame} {meth : Method} {c : Code} {D : va_G} {aC : Nat → ClassId} {b0 fu : Nat} {σ0 τ : tM} {v : Int32}  (C : tCx p s m args meth c yX10_refuseMove.cls cX10_refuseMove 4 (some .int) D aC b0 σ0) (htab : ∀ x ∈ c.exceptionTable.toList, False) (hin : meth.name = yX10_refuseMove.name)   {σ : tM} (hm : J_X10_refuseMove_103 b0 fu   σ = some (v, τ)) : tX p l e s m args below meth c 4 5 114 D aC b0 σ0 (.inl (some (.int v))) τ 103 [] [] σ := by
  unfold J_X10_refuseMove_103 at hm
  refine zx_iconst (v := 0) C dX10_refuseMove_103 (by decide) ?_
  exact zx_lv [] [] rfl (j_X10_refuseMove_104 C htab hin    hm)
set_option maxRecDepth 100000 in
set_option maxHeartbeats 1000000 in
theorem j_X10_refuseMove_83 {p : Program} {l : Launch} {e : Env} {s : State} {m : MethodId} {args : Array Value} {below : List Frame} {meth : Method} {c : Code} {D : va_G} {aC : Nat → ClassId} {b0 fu : Nat} {σ0 τ : tM} {v : Int32}  (C : tCx p s m args meth c yX10_refuseMove.cls cX10_refuseMove 4 (some .int) D aC b0 σ0) (htab : ∀ x ∈ c.exceptionTable.toList, False) (hin : meth.name = yX10_refuseMove.name)  {x0 : Nat} {x2 : Int32} {x3 : Int32} {σ : tM} (hm : J_X10_refuseMove_83 b0 fu  x0 x2 x3 σ = some (v, τ)) : tX p l e s m args below meth c 4 5 114 D aC b0 σ0 (.inl (some (.int v))) τ 83 [(0, .ref (x0)), (2, .int (x2)), (3, .int (x3))] [] σ := by
  unfold J_X10_refuseMove_83 at hm
  refine zx_iload_n C dX10_refuseMove_83 2 rfl ?_
  refine zx_if_ge C 103 dX10_refuseMove_84 (by decide) (fun c12 => ?_) (fun c12 => ?_)
  · replace hm := ip_e hm c12
    exact zx_lv [] [] rfl (j_X10_refuseMove_103 C htab hin    hm)
  · replace hm := in_e hm c12
    refine zx_aload_n C dX10_refuseMove_87 0 rfl ?_
    obtain ⟨k13, i14, hm⟩ := ckO_e hm
    obtain ⟨a15, h16, hm⟩ := osm_e hm
    refine zx_get (j := 2) C tC_10 k13 i14 ⟨by decide, Or.inl W_2_215⟩ dX10_refuseMove_88 (.ref a15) (rf_s h16) ?_
    refine zx_iload_n C dX10_refuseMove_91 1 rfl ?_
    obtain ⟨k17, i18, hm⟩ := ckO_e hm
    obtain ⟨v19, ρ20, h21, hm⟩ := cll_e hm
    refine zx_callV (σ := σ) C [.int (x2)] tC_8 k17 i18 Y_X8_hasPlaceForEntry W_4_158 W_4_159 W_4_160 (c_X8_hasPlaceForEntry h21) (by decide) (by decide) rfl (Nat.le_of_ble_eq_true rfl) dX10_refuseMove_92 rfl ?_
    refine zx_if_ne C 103 dX10_refuseMove_95 (by decide) (fun c22 => ?_) (fun c22 => ?_)
    · replace hm := in_e hm c22
      exact zx_lv [] [] rfl (j_X10_refuseMove_103 C htab hin    hm)
    · replace hm := ip_e hm c22
      refine zx_bipush (v := (-6)) C dX10_refuseMove_98 (by decide) ?_
      refine zx_goto C 104 dX10_refuseMove_100 (by decide) ?_
      exact zx_lv [] [] rfl (j_X10_refuseMove_104 C htab hin    hm)
set_option maxRecDepth 100000 in
set_option maxHeartbeats 1000000 in
theorem j_X10_refuseMove_46 {p : Program} {l : Launch} {e : Env} {s : State} {m : MethodId} {args : Array Value} {below : List Frame} {meth : Method} {c : Code} {D : va_G} {aC : Nat → ClassId} {b0 fu : Nat} {σ0 τ : tM} {v : Int32}  (C : tCx p s m args meth c yX10_refuseMove.cls cX10_refuseMove 4 (some .int) D aC b0 σ0) (htab : ∀ x ∈ c.exceptionTable.toList, False) (hin : meth.name = yX10_refuseMove.name)  {x0 : Nat} {x2 : Int32} {x3 : Int32} {σ : tM} (hm : J_X10_refuseMove_46 b0 fu  x0 x2 x3 σ = some (v, τ)) : tX p l e s m args below meth c 4 5 114 D aC b0 σ0 (.inl (some (.int v))) τ 46 [(0, .ref (x0)), (2, .int (x2)), (3, .int (x3))] [] σ := by
  unfold J_X10_refuseMove_46 at hm
  refine zx_iload_n C dX10_refuseMove_46 2 rfl ?_
  refine zx_if_lt C 83 dX10_refuseMove_47 (by decide) (fun c44 => ?_) (fun c44 => ?_)
  · replace hm := ip_e hm c44
    exact zx_lv [0, 1, 2] [(0, .ref (x0)), (2, .int (x2)), (3, .int (x3))] rfl (j_X10_refuseMove_83 C htab hin    hm)
  · replace hm := in_e hm c44
    refine zx_aload_n C dX10_refuseMove_50 0 rfl ?_
    obtain ⟨k45, i46, hm⟩ := ckO_e hm
    obtain ⟨a47, h48, hm⟩ := osm_e hm
    refine zx_get (j := 2) C tC_10 k45 i46 ⟨by decide, Or.inl W_2_215⟩ dX10_refuseMove_51 (.ref a47) (rf_s h48) ?_
    refine zx_iload_n C dX10_refuseMove_54 2 rfl ?_
    obtain ⟨k49, i50, hm⟩ := ckO_e hm
    obtain ⟨v51, ρ52, h53, hm⟩ := cll_e hm
    refine zx_callV (σ := σ) C [.int (x3)] tC_8 k49 i50 Y_X8_countEntries W_5_95 W_5_96 W_5_97 (c_X8_countEntries h53) (by decide) (by decide) rfl (Nat.le_of_ble_eq_true rfl) dX10_refuseMove_55 rfl ?_
    refine zx_if_eq C 83 dX10_refuseMove_58 (by decide) (fun c54 => ?_) (fun c54 => ?_)
    · replace hm := ip_e hm c54
      exact zx_lv [0, 1, 2] [(0, .ref (x0)), (2, .int (x2)), (3, .int (x3))] rfl (j_X10_refuseMove_83 C htab hin    hm)
    · replace hm := in_e hm c54
      refine zx_bipush (v := (-5)) C dX10_refuseMove_61 (by decide) ?_
      obtain ⟨rfl, rfl⟩ := ret_e hm
      exact zx_iret C rfl rfl rfl dX10_refuseMove_63
set_option maxRecDepth 100000 in
set_option maxHeartbeats 1000000 in
theorem c_X10_refuseMove {l : Launch} {D : va_G} {aC : Nat → ClassId} {b0 fu : Nat} {a0 : Nat} {p0 : Int32} {p1 : Int32} {p2 : Int32} {σ τ : tM} {v : Int32} (hm : m_X10_refuseMove b0 fu a0 p0 p1 p2 σ = some (v, τ)) : tMt l D aC b0 yX10_refuseMove (Cond.code yX10_refuseMove cX10_refuseMove 4 (some .int)) 5 114 [.ref (a0), .int (p0), .int (p1), .int (p2)] σ (.inl (some (.int v))) τ := by
  unfold m_X10_refuseMove at hm
  obtain ⟨hg, hm⟩ := grw_e hm
  refine tMt_of (n := 0) rfl (Nat.le_of_ble_eq_true rfl) hg ?_
  intro p e s m below meth c C htab hin
  refine zx_lv [0, 1, 2, 3] [(0, .ref (a0)), (1, .int (p0)), (2, .int (p1)), (3, .int (p2))] rfl ?_
  refine zx_aload_n C dX10_refuseMove_0 0 rfl ?_
  obtain ⟨k1, i2, hm⟩ := ckO_e hm
  obtain ⟨a3, h4, hm⟩ := osm_e hm
  refine zx_get (j := 2) C tC_10 k1 i2 ⟨by decide, Or.inl W_2_215⟩ dX10_refuseMove_1 (.ref a3) (rf_s h4) ?_
  refine zx_iload_n C dX10_refuseMove_4 1 rfl ?_
  obtain ⟨k5, i6, hm⟩ := ckO_e hm
  obtain ⟨v7, ρ8, h9, hm⟩ := cll_e hm
  refine zx_callV (σ := σ) C [.int (p0)] tC_8 k5 i6 Y_X8_kind W_5_14 W_3_80 W_3_81 (c_X8_kind h9) (by decide) (by decide) rfl (Nat.le_of_ble_eq_true rfl) dX10_refuseMove_5 rfl ?_
  refine zx_iconst (v := 2) C dX10_refuseMove_8 (by decide) ?_
  refine zx_icmp_ne C 64 dX10_refuseMove_9 (by decide) (fun c10 => ?_) (fun c10 => ?_)
  · replace hm := in_e hm c10
    refine zx_iload_n C dX10_refuseMove_64 3 rfl ?_
    refine zx_if_lt C 83 dX10_refuseMove_65 (by decide) (fun c11 => ?_) (fun c11 => ?_)
    · replace hm := ip_e hm c11
      exact zx_lv [0, 2, 3] [(0, .ref (a0)), (2, .int (p1)), (3, .int (p2))] rfl (j_X10_refuseMove_83 C htab hin    hm)
    · replace hm := in_e hm c11
      refine zx_aload_n C dX10_refuseMove_68 0 rfl ?_
      obtain ⟨k23, i24, hm⟩ := ckO_e hm
      obtain ⟨a25, h26, hm⟩ := osm_e hm
      refine zx_get (j := 2) C tC_10 k23 i24 ⟨by decide, Or.inl W_2_215⟩ dX10_refuseMove_69 (.ref a25) (rf_s h26) ?_
      refine zx_iload_n C dX10_refuseMove_72 3 rfl ?_
      obtain ⟨k27, i28, hm⟩ := ckO_e hm
      obtain ⟨v29, ρ30, h31, hm⟩ := cll_e hm
      refine zx_callV (σ := ρ8) C [.int (p2)] tC_8 k27 i28 Y_X8_kind W_5_14 W_3_80 W_3_81 (c_X8_kind h31) (by decide) (by decide) rfl (Nat.le_of_ble_eq_true rfl) dX10_refuseMove_73 rfl ?_
      refine zx_iconst (v := 2) C dX10_refuseMove_76 (by decide) ?_
      refine zx_icmp_ne C 83 dX10_refuseMove_77 (by decide) (fun c32 => ?_) (fun c32 => ?_)
      · replace hm := in_e hm c32
        exact zx_lv [0, 2, 3] [(0, .ref (a0)), (2, .int (p1)), (3, .int (p2))] rfl (j_X10_refuseMove_83 C htab hin    hm)
      · replace hm := ip_e hm c32
        refine zx_bipush (v := (-4)) C dX10_refuseMove_80 (by decide) ?_
        obtain ⟨rfl, rfl⟩ := ret_e hm
        exact zx_iret C rfl rfl rfl dX10_refuseMove_82
  · replace hm := ip_e hm c10
    refine zx_aload_n C dX10_refuseMove_12 0 rfl ?_
    obtain ⟨k33, i34, hm⟩ := ckO_e hm
    obtain ⟨a35, h36, hm⟩ := osm_e hm
    refine zx_get (j := 2) C tC_10 k33 i34 ⟨by decide, Or.inl W_2_215⟩ dX10_refuseMove_13 (.ref a35) (rf_s h36) ?_
    refine zx_iload_n C dX10_refuseMove_16 2 rfl ?_
    refine zx_iload_n C dX10_refuseMove_17 1 rfl ?_
    obtain ⟨k37, i38, hm⟩ := ckO_e hm
    obtain ⟨v39, ρ40, h41, hm⟩ := cll_e hm
    refine zx_callV (σ := ρ8) C [.int (p1), .int (p0)] tC_8 k37 i38 Y_X8_isWithin W_5_110 W_5_111 W_5_112 (c_X8_isWithin h41) (by decide) (by decide) rfl (Nat.le_of_ble_eq_true rfl) dX10_refuseMove_18 rfl ?_
    refine zx_if_eq C 27 dX10_refuseMove_21 (by decide) (fun c42 => ?_) (fun c42 => ?_)
    · replace hm := ip_e hm c42
      refine zx_iload_n C dX10_refuseMove_27 3 rfl ?_
      refine zx_if_lt C 46 dX10_refuseMove_28 (by decide) (fun c43 => ?_) (fun c43 => ?_)
      · replace hm := ip_e hm c43
        exact zx_lv [0, 2, 3] [(0, .ref (a0)), (2, .int (p1)), (3, .int (p2))] rfl (j_X10_refuseMove_46 C htab hin    hm)
      · replace hm := in_e hm c43
        refine zx_aload_n C dX10_refuseMove_31 0 rfl ?_
        obtain ⟨k55, i56, hm⟩ := ckO_e hm
        obtain ⟨a57, h58, hm⟩ := osm_e hm
        refine zx_get (j := 2) C tC_10 k55 i56 ⟨by decide, Or.inl W_2_215⟩ dX10_refuseMove_32 (.ref a57) (rf_s h58) ?_
        refine zx_iload_n C dX10_refuseMove_35 3 rfl ?_
        obtain ⟨k59, i60, hm⟩ := ckO_e hm
        obtain ⟨v61, ρ62, h63, hm⟩ := cll_e hm
        refine zx_callV (σ := ρ40) C [.int (p2)] tC_8 k59 i60 Y_X8_kind W_5_14 W_3_80 W_3_81 (c_X8_kind h63) (by decide) (by decide) rfl (Nat.le_of_ble_eq_true rfl) dX10_refuseMove_36 rfl ?_
        refine zx_iconst (v := 2) C dX10_refuseMove_39 (by decide) ?_
        refine zx_icmp_eq C 46 dX10_refuseMove_40 (by decide) (fun c64 => ?_) (fun c64 => ?_)
        · replace hm := ip_e hm c64
          exact zx_lv [0, 2, 3] [(0, .ref (a0)), (2, .int (p1)), (3, .int (p2))] rfl (j_X10_refuseMove_46 C htab hin    hm)
        · replace hm := in_e hm c64
          refine zx_bipush (v := (-3)) C dX10_refuseMove_43 (by decide) ?_
          obtain ⟨rfl, rfl⟩ := ret_e hm
          exact zx_iret C rfl rfl rfl dX10_refuseMove_45
    · replace hm := in_e hm c42
      refine zx_bipush (v := (-9)) C dX10_refuseMove_24 (by decide) ?_
      obtain ⟨rfl, rfl⟩ := ret_e hm
      exact zx_iret C rfl rfl rfl dX10_refuseMove_26
abbrev cX8_drop : ByteArray := prog_10_method_30_code
def yX8_drop : MethodName := ⟨"SyncTree$Tree", "drop", "(II)V"⟩
theorem Y_X8_drop : tY yX8_drop cX8_drop 6 none 2 := ⟨W_5_45, W_1_4, ⟨by decide +kernel, by decide +kernel⟩, by decide +kernel⟩
theorem dX8_drop_0 : decode cX8_drop 0 = .ok (.aload_n 0, 1) := by decide +kernel
theorem dX8_drop_1 : decode cX8_drop 1 = .ok (.iload_n 1, 1) := by decide +kernel
theorem dX8_drop_2 : decode cX8_drop 2 = .ok (.iload_n 2, 1) := by decide +kernel
theorem dX8_drop_3 : decode cX8_drop 3 = .ok (.invokevirtual 112, 3) := by decide +kernel
theorem dX8_drop_6 : decode cX8_drop 6 = .ok (.lstore_n 3, 1) := by decide +kernel
theorem dX8_drop_7 : decode cX8_drop 7 = .ok (.lload_n 3, 1) := by decide +kernel
theorem dX8_drop_8 : decode cX8_drop 8 = .ok (.lconst 0, 1) := by decide +kernel
theorem dX8_drop_9 : decode cX8_drop 9 = .ok (.lcmp, 1) := by decide +kernel
theorem dX8_drop_10 : decode cX8_drop 10 = .ok (.ifCond .ne 4, 3) := by decide +kernel
theorem dX8_drop_13 : decode cX8_drop 13 = .ok (.return_, 1) := by decide +kernel
theorem dX8_drop_14 : decode cX8_drop 14 = .ok (.aload_n 0, 1) := by decide +kernel
theorem dX8_drop_15 : decode cX8_drop 15 = .ok (.iload_n 1, 1) := by decide +kernel
theorem dX8_drop_16 : decode cX8_drop 16 = .ok (.iload_n 2, 1) := by decide +kernel
theorem dX8_drop_17 : decode cX8_drop 17 = .ok (.lconst 0, 1) := by decide +kernel
theorem dX8_drop_18 : decode cX8_drop 18 = .ok (.invokevirtual 119, 3) := by decide +kernel
theorem dX8_drop_21 : decode cX8_drop 21 = .ok (.aload_n 0, 1) := by decide +kernel
theorem dX8_drop_22 : decode cX8_drop 22 = .ok (.getfield 15, 3) := by decide +kernel
theorem dX8_drop_25 : decode cX8_drop 25 = .ok (.lload_n 3, 1) := by decide +kernel
theorem dX8_drop_26 : decode cX8_drop 26 = .ok (.invokestatic 104, 3) := by decide +kernel
theorem dX8_drop_29 : decode cX8_drop 29 = .ok (.aload_n 0, 1) := by decide +kernel
theorem dX8_drop_30 : decode cX8_drop 30 = .ok (.iload_n 1, 1) := by decide +kernel
theorem dX8_drop_31 : decode cX8_drop 31 = .ok (.invokevirtual 40, 3) := by decide +kernel
theorem dX8_drop_34 : decode cX8_drop 34 = .ok (.iconst 2, 1) := by decide +kernel
theorem dX8_drop_35 : decode cX8_drop 35 = .ok (.if_icmp .ne 7, 3) := by decide +kernel
theorem dX8_drop_38 : decode cX8_drop 38 = .ok (.iconst 1, 1) := by decide +kernel
theorem dX8_drop_39 : decode cX8_drop 39 = .ok (.goto 4, 3) := by decide +kernel
theorem dX8_drop_42 : decode cX8_drop 42 = .ok (.iconst 0, 1) := by decide +kernel
theorem dX8_drop_43 : decode cX8_drop 43 = .ok (.invokevirtual 122, 3) := by decide +kernel
theorem dX8_drop_46 : decode cX8_drop 46 = .ok (.aload_n 0, 1) := by decide +kernel
theorem dX8_drop_47 : decode cX8_drop 47 = .ok (.iload_n 1, 1) := by decide +kernel
theorem dX8_drop_48 : decode cX8_drop 48 = .ok (.iconst 1, 1) := by decide +kernel
theorem dX8_drop_49 : decode cX8_drop 49 = .ok (.invokevirtual 63, 3) := by decide +kernel
theorem dX8_drop_52 : decode cX8_drop 52 = .ok (.iload_n 2, 1) := by decide +kernel
theorem dX8_drop_53 : decode cX8_drop 53 = .ok (.bipush 40, 2) := by decide +kernel
theorem dX8_drop_55 : decode cX8_drop 55 = .ok (.if_icmp .lt 72, 3) := by decide +kernel
theorem dX8_drop_58 : decode cX8_drop 58 = .ok (.aload_n 0, 1) := by decide +kernel
theorem dX8_drop_59 : decode cX8_drop 59 = .ok (.iload_n 1, 1) := by decide +kernel
theorem dX8_drop_60 : decode cX8_drop 60 = .ok (.iload_n 2, 1) := by decide +kernel
theorem dX8_drop_61 : decode cX8_drop 61 = .ok (.invokevirtual 101, 3) := by decide +kernel
theorem dX8_drop_64 : decode cX8_drop 64 = .ok (.invokestatic 104, 3) := by decide +kernel
theorem dX8_drop_67 : decode cX8_drop 67 = .ok (.istore 5, 2) := by decide +kernel
theorem dX8_drop_69 : decode cX8_drop 69 = .ok (.aload_n 0, 1) := by decide +kernel
theorem dX8_drop_70 : decode cX8_drop 70 = .ok (.getfield 15, 3) := by decide +kernel
theorem dX8_drop_73 : decode cX8_drop 73 = .ok (.iload 5, 2) := by decide +kernel
theorem dX8_drop_75 : decode cX8_drop 75 = .ok (.iconst 0, 1) := by decide +kernel
theorem dX8_drop_76 : decode cX8_drop 76 = .ok (.invokevirtual 126, 3) := by decide +kernel
theorem dX8_drop_79 : decode cX8_drop 79 = .ok (.ifCond .eq 45, 3) := by decide +kernel
theorem dX8_drop_82 : decode cX8_drop 82 = .ok (.aload_n 0, 1) := by decide +kernel
theorem dX8_drop_83 : decode cX8_drop 83 = .ok (.getfield 15, 3) := by decide +kernel
theorem dX8_drop_86 : decode cX8_drop 86 = .ok (.aload_n 0, 1) := by decide +kernel
theorem dX8_drop_87 : decode cX8_drop 87 = .ok (.iload_n 1, 1) := by decide +kernel
theorem dX8_drop_88 : decode cX8_drop 88 = .ok (.bipush 10, 2) := by decide +kernel
theorem dX8_drop_90 : decode cX8_drop 90 = .ok (.invokevirtual 30, 3) := by decide +kernel
theorem dX8_drop_93 : decode cX8_drop 93 = .ok (.invokestatic 104, 3) := by decide +kernel
theorem dX8_drop_96 : decode cX8_drop 96 = .ok (.iload_n 2, 1) := by decide +kernel
theorem dX8_drop_97 : decode cX8_drop 97 = .ok (.bipush 40, 2) := by decide +kernel
theorem dX8_drop_99 : decode cX8_drop 99 = .ok (.isub, 1) := by decide +kernel
theorem dX8_drop_100 : decode cX8_drop 100 = .ok (.bipush 32, 2) := by decide +kernel
theorem dX8_drop_102 : decode cX8_drop 102 = .ok (.idiv, 1) := by decide +kernel
theorem dX8_drop_103 : decode cX8_drop 103 = .ok (.lconst 0, 1) := by decide +kernel
theorem dX8_drop_104 : decode cX8_drop 104 = .ok (.invokevirtual 108, 3) := by decide +kernel
theorem dX8_drop_107 : decode cX8_drop 107 = .ok (.aload_n 0, 1) := by decide +kernel
theorem dX8_drop_108 : decode cX8_drop 108 = .ok (.getfield 15, 3) := by decide +kernel
theorem dX8_drop_111 : decode cX8_drop 111 = .ok (.iload 5, 2) := by decide +kernel
theorem dX8_drop_113 : decode cX8_drop 113 = .ok (.iconst 1, 1) := by decide +kernel
theorem dX8_drop_114 : decode cX8_drop 114 = .ok (.invokevirtual 122, 3) := by decide +kernel
theorem dX8_drop_117 : decode cX8_drop 117 = .ok (.aload_n 0, 1) := by decide +kernel
theorem dX8_drop_118 : decode cX8_drop 118 = .ok (.iload_n 1, 1) := by decide +kernel
theorem dX8_drop_119 : decode cX8_drop 119 = .ok (.bipush 10, 2) := by decide +kernel
theorem dX8_drop_121 : decode cX8_drop 121 = .ok (.invokevirtual 130, 3) := by decide +kernel
theorem dX8_drop_124 : decode cX8_drop 124 = .ok (.goto 16, 3) := by decide +kernel
theorem dX8_drop_127 : decode cX8_drop 127 = .ok (.iload_n 2, 1) := by decide +kernel
theorem dX8_drop_128 : decode cX8_drop 128 = .ok (.bipush 8, 2) := by decide +kernel
theorem dX8_drop_130 : decode cX8_drop 130 = .ok (.if_icmp .lt 10, 3) := by decide +kernel
theorem dX8_drop_133 : decode cX8_drop 133 = .ok (.aload_n 0, 1) := by decide +kernel
theorem dX8_drop_134 : decode cX8_drop 134 = .ok (.iload_n 1, 1) := by decide +kernel
theorem dX8_drop_135 : decode cX8_drop 135 = .ok (.bipush 9, 2) := by decide +kernel
theorem dX8_drop_137 : decode cX8_drop 137 = .ok (.invokevirtual 130, 3) := by decide +kernel
theorem dX8_drop_140 : decode cX8_drop 140 = .ok (.return_, 1) := by decide +kernel
def J_X8_drop_140 (b0 fu : Nat)   (σ : tM) : Option ((Unit) × tM) := some ((), σ)
def J_X8_drop_124 (b0 fu : Nat)   (σ : tM) : Option ((Unit) × tM) := J_X8_drop_140 b0 fu    (σ)
def J_X8_drop_43 (b0 fu : Nat)  (x0 : Nat) (x1 : Int32) (x2 : Int32) (s0 : Nat) (s1 : Int32) (s2 : Int32) (σ : tM) : Option ((Unit) × tM) := ckO b0 (σ) (s0) 5 (cll (m_X5_release b0 fu (s0) (s1) (s2) (σ)) (fun v27 ρ28 => ckO b0 (ρ28) (x0) 8 (cll (m_X8_noteChange b0 fu (x0) (x1) (1) (ρ28)) (fun v32 ρ33 => if (x2) < (40) then if (x2) < (8) then J_X8_drop_140 b0 fu    (ρ33) else ckO b0 (ρ33) (x0) 8 (cll (m_X8_dropIfEmpty b0 fu (x0) (x1) (9) (ρ33)) (fun v39 ρ40 => J_X8_drop_140 b0 fu    (ρ40))) else ckO b0 (ρ33) (x0) 8 (cll (m_X8_table b0 fu (x0) (x1) (x2) (ρ33)) (fun v44 ρ45 => cll (m_X8_cellOf b0 fu (v44) (ρ45)) (fun v47 ρ48 => ckO b0 (ρ48) (x0) 8 (osm (tA (ρ48) (x0) 0) (fun a52 => ckO b0 (ρ48) (a52) 5 (cll (m_X5_isZeroFrom b0 fu (a52) (v47) (0) (ρ48)) (fun v56 ρ57 => if (v56) = (0) then J_X8_drop_124 b0 fu    (ρ57) else ckO b0 (ρ57) (x0) 8 (osm (tA (ρ57) (x0) 0) (fun a62 => cll (m_X8_nodeWord b0 fu (x0) (x1) (10) (ρ57)) (fun v64 ρ65 => cll (m_X8_cellOf b0 fu (v64) (ρ65)) (fun v67 ρ68 => ckO b0 (ρ68) (a62) 5 (cll (m_X5_setWord b0 fu (a62) (v67) (((x2) - (40)) / (32)) (0) (ρ68)) (fun v72 ρ73 => ckO b0 (ρ73) (x0) 8 (osm (tA (ρ73) (x0) 0) (fun a77 => ckO b0 (ρ73) (a77) 5 (cll (m_X5_release b0 fu (a77) (v47) (1) (ρ73)) (fun v81 ρ82 => ckO b0 (ρ82) (x0) 8 (cll (m_X8_dropIfEmpty b0 fu (x0) (x1) (10) (ρ82)) (fun v86 ρ87 => J_X8_drop_124 b0 fu    (ρ87))))))))))))))))))))))))
def m_X8_drop (b0 fu : Nat) (a0 : Nat) (p0 : Int32) (p1 : Int32) (σ : tM) : Option ((Unit) × tM) := grw σ (ckO b0 (σ) (a0) 8 (cll (m_X8_pointer b0 fu (a0) (p0) (p1) (σ)) (fun v3 ρ4 => if (lg_cmp (v3) (0)) = (0) then some ((), ρ4) else ckO b0 (ρ4) (a0) 8 (cll (m_X8_setPointer b0 fu (a0) (p0) (p1) (0) (ρ4)) (fun v9 ρ10 => ckO b0 (ρ10) (a0) 8 (osm (tA (ρ10) (a0) 0) (fun a14 => cll (m_X8_cellOf b0 fu (v3) (ρ10)) (fun v16 ρ17 => ckO b0 (ρ17) (a0) 8 (cll (m_X8_kind b0 fu (a0) (p0) (ρ17)) (fun v21 ρ22 => if (v21) = (2) then J_X8_drop_43 b0 fu   (a0) (p0) (p1) (a14) (v16) (1) (ρ22) else J_X8_drop_43 b0 fu   (a0) (p0) (p1) (a14) (v16) (0) (ρ22)))))))))))
set_option maxRecDepth 100000 in
set_option maxHeartbeats 1000000 in
theorem j_X8_drop_140 {p : Program} {l : Launch} {e : Env} {s : State} {m : MethodId} {args : Array Value} {below : List Frame} {meth : Method} {c : Code} {D : va_G} {aC : Nat → ClassId} {b0 fu : Nat} {σ0 τ : tM} {v : Unit}  (C : tCx p s m args meth c yX8_drop.cls cX8_drop 6 none D aC b0 σ0) (htab : ∀ x ∈ c.exceptionTable.toList, False) (hin : meth.name = yX8_drop.name)   {σ : tM} (hm : J_X8_drop_140 b0 fu   σ = some (v, τ)) : tX p l e s m args below meth c 6 3 71 D aC b0 σ0 (.inl none) τ 140 [] [] σ := by
  unfold J_X8_drop_140 at hm
  obtain ⟨rfl, rfl⟩ := ret_e hm
  exact zx_vret C rfl rfl rfl dX8_drop_140
set_option maxRecDepth 100000 in
set_option maxHeartbeats 1000000 in
theorem j_X8_drop_124 {p : Program} {l : Launch} {e : Env} {s : State} {m : MethodId} {args : Array Value} {below : List Frame} {meth : Method} {c : Code} {D : va_G} {aC : Nat → ClassId} {b0 fu : Nat} {σ0 τ : tM} {v : Unit}  (C : tCx p s m args meth c yX8_drop.cls cX8_drop 6 none D aC b0 σ0) (htab : ∀ x ∈ c.exceptionTable.toList, False) (hin : meth.name = yX8_drop.name)   {σ : tM} (hm : J_X8_drop_124 b0 fu   σ = some (v, τ)) : tX p l e s m args below meth c 6 3 71 D aC b0 σ0 (.inl none) τ 124 [] [] σ := by
  unfold J_X8_drop_124 at hm
  refine zx_goto C 140 dX8_drop_124 (by decide) ?_
  exact zx_lv [] [] rfl (j_X8_drop_140 C htab hin    hm)
set_option maxRecDepth 100000 in
set_option maxHeartbeats 1000000 in
theorem j_X8_drop_43 {p : Program} {l : Launch} {e : Env} {s : State} {m : MethodId} {args : Array Value} {below : List Frame} {meth : Method} {c : Code} {D : va_G} {aC : Nat → ClassId} {b0 fu : Nat} {σ0 τ : tM} {v : Unit}  (C : tCx p s m args meth c yX8_drop.cls cX8_drop 6 none D aC b0 σ0) (htab : ∀ x ∈ c.exceptionTable.toList, False) (hin : meth.name = yX8_drop.name)  {x0 : Nat} {x1 : Int32} {x2 : Int32} {s0 : Nat} {s1 : Int32} {s2 : Int32} {σ : tM} (hm : J_X8_drop_43 b0 fu  x0 x1 x2 s0 s1 s2 σ = some (v, τ)) : tX p l e s m args below meth c 6 3 71 D aC b0 σ0 (.inl none) τ 43 [(0, .ref (x0)), (1, .int (x1)), (2, .int (x2))] [.int (s2), .int (s1), .ref (s0)] σ := by
  unfold J_X8_drop_43 at hm
  obtain ⟨k25, i26, hm⟩ := ckO_e hm
  obtain ⟨v27, ρ28, h29, hm⟩ := cll_e hm
  refine zx_callV (σ := σ) C [.int (s1), .int (s2)] tC_5 k25 i26 Y_X5_release W_5_46 W_5_47 W_5_48 (c_X5_release h29) (by decide) (by decide) rfl (Nat.le_of_ble_eq_true rfl) dX8_drop_43 rfl ?_
  refine zx_aload_n C dX8_drop_46 0 rfl ?_
  refine zx_iload_n C dX8_drop_47 1 rfl ?_
  refine zx_iconst (v := 1) C dX8_drop_48 (by decide) ?_
  obtain ⟨k30, i31, hm⟩ := ckO_e hm
  obtain ⟨v32, ρ33, h34, hm⟩ := cll_e hm
  refine zx_callV (σ := ρ28) C [.int (x1), .int (1)] tC_8 k30 i31 Y_X8_noteChange W_2_160 W_2_162 Wp_7 (c_X8_noteChange h34) (by decide) (by decide) rfl (Nat.le_of_ble_eq_true rfl) dX8_drop_49 rfl ?_
  refine zx_iload_n C dX8_drop_52 2 rfl ?_
  refine zx_bipush (v := 40) C dX8_drop_53 (by decide) ?_
  refine zx_icmp_lt C 127 dX8_drop_55 (by decide) (fun c35 => ?_) (fun c35 => ?_)
  · replace hm := ip_e hm c35
    refine zx_iload_n C dX8_drop_127 2 rfl ?_
    refine zx_bipush (v := 8) C dX8_drop_128 (by decide) ?_
    refine zx_icmp_lt C 140 dX8_drop_130 (by decide) (fun c36 => ?_) (fun c36 => ?_)
    · replace hm := ip_e hm c36
      exact zx_lv [] [] rfl (j_X8_drop_140 C htab hin    hm)
    · replace hm := in_e hm c36
      refine zx_aload_n C dX8_drop_133 0 rfl ?_
      refine zx_iload_n C dX8_drop_134 1 rfl ?_
      refine zx_bipush (v := 9) C dX8_drop_135 (by decide) ?_
      obtain ⟨k37, i38, hm⟩ := ckO_e hm
      obtain ⟨v39, ρ40, h41, hm⟩ := cll_e hm
      refine zx_callV (σ := ρ33) C [.int (x1), .int (9)] tC_8 k37 i38 Y_X8_dropIfEmpty W_5_54 W_5_56 Wp_35 (c_X8_dropIfEmpty h41) (by decide) (by decide) rfl (Nat.le_of_ble_eq_true rfl) dX8_drop_137 rfl ?_
      exact zx_lv [] [] rfl (j_X8_drop_140 C htab hin    hm)
  · replace hm := in_e hm c35
    refine zx_aload_n C dX8_drop_58 0 rfl ?_
    refine zx_iload_n C dX8_drop_59 1 rfl ?_
    refine zx_iload_n C dX8_drop_60 2 rfl ?_
    obtain ⟨k42, i43, hm⟩ := ckO_e hm
    obtain ⟨v44, ρ45, h46, hm⟩ := cll_e hm
    refine zx_callV (σ := ρ33) C [.int (x1), .int (x2)] tC_8 k42 i43 Y_X8_table W_4_113 W_4_115 Wp_25 (c_X8_table h46) (by decide) (by decide) rfl (Nat.le_of_ble_eq_true rfl) dX8_drop_61 rfl ?_
    obtain ⟨v47, ρ48, h49, hm⟩ := cll_e hm
    refine zx_callS (σ := ρ45) C [.long (v44)] Y_X8_cellOf W_4_117 W_4_118 (c_X8_cellOf h49) (by decide) (by decide) rfl (Nat.le_of_ble_eq_true rfl) dX8_drop_64 rfl ?_
    refine zx_istore C [(5, .int (v47)), (0, .ref (x0)), (1, .int (x1)), (2, .int (x2))] dX8_drop_67 (by decide) rfl ?_
    refine zx_aload_n C dX8_drop_69 1 rfl ?_
    obtain ⟨k50, i51, hm⟩ := ckO_e hm
    obtain ⟨a52, h53, hm⟩ := osm_e hm
    refine zx_get (j := 0) C tC_8 k50 i51 ⟨by decide, Or.inl W_1_163⟩ dX8_drop_70 (.ref a52) (rf_s h53) ?_
    refine zx_iload C dX8_drop_73 0 rfl ?_
    refine zx_iconst (v := 0) C dX8_drop_75 (by decide) ?_
    obtain ⟨k54, i55, hm⟩ := ckO_e hm
    obtain ⟨v56, ρ57, h58, hm⟩ := cll_e hm
    refine zx_callV (σ := ρ48) C [.int (v47), .int (0)] tC_5 k54 i55 Y_X5_isZeroFrom W_5_37 W_5_38 W_5_39 (c_X5_isZeroFrom h58) (by decide) (by decide) rfl (Nat.le_of_ble_eq_true rfl) dX8_drop_76 rfl ?_
    refine zx_if_eq C 124 dX8_drop_79 (by decide) (fun c59 => ?_) (fun c59 => ?_)
    · replace hm := ip_e hm c59
      exact zx_lv [] [] rfl (j_X8_drop_124 C htab hin    hm)
    · replace hm := in_e hm c59
      refine zx_aload_n C dX8_drop_82 1 rfl ?_
      obtain ⟨k60, i61, hm⟩ := ckO_e hm
      obtain ⟨a62, h63, hm⟩ := osm_e hm
      refine zx_get (j := 0) C tC_8 k60 i61 ⟨by decide, Or.inl W_1_163⟩ dX8_drop_83 (.ref a62) (rf_s h63) ?_
      refine zx_aload_n C dX8_drop_86 1 rfl ?_
      refine zx_iload_n C dX8_drop_87 2 rfl ?_
      refine zx_bipush (v := 10) C dX8_drop_88 (by decide) ?_
      obtain ⟨v64, ρ65, h66, hm⟩ := cll_e hm
      refine zx_callV (σ := ρ57) C [.int (x1), .int (10)] tC_8 k60 i61 Y_X8_nodeWord W_3_83 W_3_84 W_3_85 (c_X8_nodeWord h66) (by decide) (by decide) rfl (Nat.le_of_ble_eq_true rfl) dX8_drop_90 rfl ?_
      obtain ⟨v67, ρ68, h69, hm⟩ := cll_e hm
      refine zx_callS (σ := ρ65) C [.long (v64)] Y_X8_cellOf W_4_117 W_4_118 (c_X8_cellOf h69) (by decide) (by decide) rfl (Nat.le_of_ble_eq_true rfl) dX8_drop_93 rfl ?_
      refine zx_iload_n C dX8_drop_96 3 rfl ?_
      refine zx_bipush (v := 40) C dX8_drop_97 (by decide) ?_
      refine zx_isub C dX8_drop_99 ?_
      refine zx_bipush (v := 32) C dX8_drop_100 (by decide) ?_
      refine zx_idiv C dX8_drop_102 (by decide) ?_
      refine zx_lconst (v := 0) C dX8_drop_103 (by decide) ?_
      obtain ⟨k70, i71, hm⟩ := ckO_e hm
      obtain ⟨v72, ρ73, h74, hm⟩ := cll_e hm
      refine zx_callV (σ := ρ68) C [.int (v67), .int (((x2) - (40)) / (32)), .long (0)] tC_5 k70 i71 Y_X5_setWord W_4_216 W_4_217 W_4_218 (c_X5_setWord h74) (by decide) (by decide) rfl (Nat.le_of_ble_eq_true rfl) dX8_drop_104 rfl ?_
      refine zx_aload_n C dX8_drop_107 1 rfl ?_
      obtain ⟨k75, i76, hm⟩ := ckO_e hm
      obtain ⟨a77, h78, hm⟩ := osm_e hm
      refine zx_get (j := 0) C tC_8 k75 i76 ⟨by decide, Or.inl W_1_163⟩ dX8_drop_108 (.ref a77) (rf_s h78) ?_
      refine zx_iload C dX8_drop_111 0 rfl ?_
      refine zx_iconst (v := 1) C dX8_drop_113 (by decide) ?_
      obtain ⟨k79, i80, hm⟩ := ckO_e hm
      obtain ⟨v81, ρ82, h83, hm⟩ := cll_e hm
      refine zx_callV (σ := ρ73) C [.int (v47), .int (1)] tC_5 k79 i80 Y_X5_release W_5_46 W_5_47 W_5_48 (c_X5_release h83) (by decide) (by decide) rfl (Nat.le_of_ble_eq_true rfl) dX8_drop_114 rfl ?_
      refine zx_aload_n C dX8_drop_117 1 rfl ?_
      refine zx_iload_n C dX8_drop_118 2 rfl ?_
      refine zx_bipush (v := 10) C dX8_drop_119 (by decide) ?_
      obtain ⟨k84, i85, hm⟩ := ckO_e hm
      obtain ⟨v86, ρ87, h88, hm⟩ := cll_e hm
      refine zx_callV (σ := ρ82) C [.int (x1), .int (10)] tC_8 k84 i85 Y_X8_dropIfEmpty W_5_54 W_5_56 Wp_35 (c_X8_dropIfEmpty h88) (by decide) (by decide) rfl (Nat.le_of_ble_eq_true rfl) dX8_drop_121 rfl ?_
      exact zx_lv [] [] rfl (j_X8_drop_124 C htab hin    hm)
set_option maxRecDepth 100000 in
set_option maxHeartbeats 1000000 in
theorem c_X8_drop {l : Launch} {D : va_G} {aC : Nat → ClassId} {b0 fu : Nat} {a0 : Nat} {p0 : Int32} {p1 : Int32} {σ τ : tM} {v : Unit} (hm : m_X8_drop b0 fu a0 p0 p1 σ = some (v, τ)) : tMt l D aC b0 yX8_drop (Cond.code yX8_drop cX8_drop 6 none) 3 71 [.ref (a0), .int (p0), .int (p1)] σ (.inl none) τ := by
  unfold m_X8_drop at hm
  obtain ⟨hg, hm⟩ := grw_e hm
  refine tMt_of (n := 0) rfl (Nat.le_of_ble_eq_true rfl) hg ?_
  intro p e s m below meth c C htab hin
  refine zx_lv [0, 1, 2] [(0, .ref (a0)), (1, .int (p0)), (2, .int (p1))] rfl ?_
  refine zx_aload_n C dX8_drop_0 0 rfl ?_
  refine zx_iload_n C dX8_drop_1 1 rfl ?_
  refine zx_iload_n C dX8_drop_2 2 rfl ?_
  obtain ⟨k1, i2, hm⟩ := ckO_e hm
  obtain ⟨v3, ρ4, h5, hm⟩ := cll_e hm
  refine zx_callV (σ := σ) C [.int (p0), .int (p1)] tC_8 k1 i2 Y_X8_pointer W_4_109 W_4_110 W_4_111 (c_X8_pointer h5) (by decide) (by decide) rfl (Nat.le_of_ble_eq_true rfl) dX8_drop_3 rfl ?_
  refine zx_lstore_n C [(3, .long (v3)), (0, .ref (a0)), (1, .int (p0)), (2, .int (p1))] dX8_drop_6 rfl (by decide) rfl ?_
  refine zx_lload_n C dX8_drop_7 0 rfl ?_
  refine zx_lconst (v := 0) C dX8_drop_8 (by decide) ?_
  refine zx_lcmp C dX8_drop_9 ?_
  refine zx_if_ne C 14 dX8_drop_10 (by decide) (fun c6 => ?_) (fun c6 => ?_)
  · replace hm := in_e hm c6
    refine zx_aload_n C dX8_drop_14 1 rfl ?_
    refine zx_iload_n C dX8_drop_15 2 rfl ?_
    refine zx_iload_n C dX8_drop_16 3 rfl ?_
    refine zx_lconst (v := 0) C dX8_drop_17 (by decide) ?_
    obtain ⟨k7, i8, hm⟩ := ckO_e hm
    obtain ⟨v9, ρ10, h11, hm⟩ := cll_e hm
    refine zx_callV (σ := ρ4) C [.int (p0), .int (p1), .long (0)] tC_8 k7 i8 Y_X8_setPointer W_4_220 W_4_222 Wp_31 (c_X8_setPointer h11) (by decide) (by decide) rfl (Nat.le_of_ble_eq_true rfl) dX8_drop_18 rfl ?_
    refine zx_aload_n C dX8_drop_21 1 rfl ?_
    obtain ⟨k12, i13, hm⟩ := ckO_e hm
    obtain ⟨a14, h15, hm⟩ := osm_e hm
    refine zx_get (j := 0) C tC_8 k12 i13 ⟨by decide, Or.inl W_1_163⟩ dX8_drop_22 (.ref a14) (rf_s h15) ?_
    refine zx_lload_n C dX8_drop_25 0 rfl ?_
    obtain ⟨v16, ρ17, h18, hm⟩ := cll_e hm
    refine zx_callS (σ := ρ10) C [.long (v3)] Y_X8_cellOf W_4_117 W_4_118 (c_X8_cellOf h18) (by decide) (by decide) rfl (Nat.le_of_ble_eq_true rfl) dX8_drop_26 rfl ?_
    refine zx_aload_n C dX8_drop_29 1 rfl ?_
    refine zx_iload_n C dX8_drop_30 2 rfl ?_
    obtain ⟨k19, i20, hm⟩ := ckO_e hm
    obtain ⟨v21, ρ22, h23, hm⟩ := cll_e hm
    refine zx_callV (σ := ρ17) C [.int (p0)] tC_8 k19 i20 Y_X8_kind W_3_79 W_3_80 W_3_81 (c_X8_kind h23) (by decide) (by decide) rfl (Nat.le_of_ble_eq_true rfl) dX8_drop_31 rfl ?_
    refine zx_iconst (v := 2) C dX8_drop_34 (by decide) ?_
    refine zx_icmp_ne C 42 dX8_drop_35 (by decide) (fun c24 => ?_) (fun c24 => ?_)
    · replace hm := in_e hm c24
      refine zx_iconst (v := 0) C dX8_drop_42 (by decide) ?_
      exact zx_lv [1, 2, 3] [(0, .ref (a0)), (1, .int (p0)), (2, .int (p1))] rfl (j_X8_drop_43 C htab hin    hm)
    · replace hm := ip_e hm c24
      refine zx_iconst (v := 1) C dX8_drop_38 (by decide) ?_
      refine zx_goto C 43 dX8_drop_39 (by decide) ?_
      exact zx_lv [1, 2, 3] [(0, .ref (a0)), (1, .int (p0)), (2, .int (p1))] rfl (j_X8_drop_43 C htab hin    hm)
  · replace hm := ip_e hm c6
    obtain ⟨rfl, rfl⟩ := ret_e hm
    exact zx_vret C rfl rfl rfl dX8_drop_13
abbrev cX8_resize : ByteArray := prog_10_method_32_code
def yX8_resize : MethodName := ⟨"SyncTree$Tree", "resize", "(II)V"⟩
theorem Y_X8_resize : tY yX8_resize cX8_resize 6 none 2 := ⟨W_5_69, W_1_4, ⟨by decide +kernel, by decide +kernel⟩, by decide +kernel⟩
theorem dX8_resize_0 : decode cX8_resize 0 = .ok (.aload_n 0, 1) := by decide +kernel
theorem dX8_resize_1 : decode cX8_resize 1 = .ok (.iload_n 1, 1) := by decide +kernel
theorem dX8_resize_2 : decode cX8_resize 2 = .ok (.invokevirtual 53, 3) := by decide +kernel
theorem dX8_resize_5 : decode cX8_resize 5 = .ok (.istore_n 3, 1) := by decide +kernel
theorem dX8_resize_6 : decode cX8_resize 6 = .ok (.aload_n 0, 1) := by decide +kernel
theorem dX8_resize_7 : decode cX8_resize 7 = .ok (.iload_n 1, 1) := by decide +kernel
theorem dX8_resize_8 : decode cX8_resize 8 = .ok (.iload_n 2, 1) := by decide +kernel
theorem dX8_resize_9 : decode cX8_resize 9 = .ok (.invokevirtual 83, 3) := by decide +kernel
theorem dX8_resize_12 : decode cX8_resize 12 = .ok (.iload_n 2, 1) := by decide +kernel
theorem dX8_resize_13 : decode cX8_resize 13 = .ok (.iload_n 3, 1) := by decide +kernel
theorem dX8_resize_14 : decode cX8_resize 14 = .ok (.if_icmp .ne 4, 3) := by decide +kernel
theorem dX8_resize_17 : decode cX8_resize 17 = .ok (.return_, 1) := by decide +kernel
theorem dX8_resize_18 : decode cX8_resize 18 = .ok (.aload_n 0, 1) := by decide +kernel
theorem dX8_resize_19 : decode cX8_resize 19 = .ok (.iload_n 1, 1) := by decide +kernel
theorem dX8_resize_20 : decode cX8_resize 20 = .ok (.iconst 1, 1) := by decide +kernel
theorem dX8_resize_21 : decode cX8_resize 21 = .ok (.invokevirtual 63, 3) := by decide +kernel
theorem dX8_resize_24 : decode cX8_resize 24 = .ok (.aload_n 0, 1) := by decide +kernel
theorem dX8_resize_25 : decode cX8_resize 25 = .ok (.iload_n 1, 1) := by decide +kernel
theorem dX8_resize_26 : decode cX8_resize 26 = .ok (.iload_n 2, 1) := by decide +kernel
theorem dX8_resize_27 : decode cX8_resize 27 = .ok (.iload_n 3, 1) := by decide +kernel
theorem dX8_resize_28 : decode cX8_resize 28 = .ok (.invokestatic 73, 3) := by decide +kernel
theorem dX8_resize_31 : decode cX8_resize 31 = .ok (.invokevirtual 133, 3) := by decide +kernel
theorem dX8_resize_34 : decode cX8_resize 34 = .ok (.iload_n 2, 1) := by decide +kernel
theorem dX8_resize_35 : decode cX8_resize 35 = .ok (.sipush 256, 3) := by decide +kernel
theorem dX8_resize_38 : decode cX8_resize 38 = .ok (.iadd, 1) := by decide +kernel
theorem dX8_resize_39 : decode cX8_resize 39 = .ok (.iconst 1, 1) := by decide +kernel
theorem dX8_resize_40 : decode cX8_resize 40 = .ok (.isub, 1) := by decide +kernel
theorem dX8_resize_41 : decode cX8_resize 41 = .ok (.sipush 256, 3) := by decide +kernel
theorem dX8_resize_44 : decode cX8_resize 44 = .ok (.idiv, 1) := by decide +kernel
theorem dX8_resize_45 : decode cX8_resize 45 = .ok (.istore 4, 2) := by decide +kernel
theorem dX8_resize_47 : decode cX8_resize 47 = .ok (.iload_n 3, 1) := by decide +kernel
theorem dX8_resize_48 : decode cX8_resize 48 = .ok (.iconst 1, 1) := by decide +kernel
theorem dX8_resize_49 : decode cX8_resize 49 = .ok (.isub, 1) := by decide +kernel
theorem dX8_resize_50 : decode cX8_resize 50 = .ok (.sipush 256, 3) := by decide +kernel
theorem dX8_resize_53 : decode cX8_resize 53 = .ok (.idiv, 1) := by decide +kernel
theorem dX8_resize_54 : decode cX8_resize 54 = .ok (.istore 5, 2) := by decide +kernel
theorem dX8_resize_56 : decode cX8_resize 56 = .ok (.iload 5, 2) := by decide +kernel
theorem dX8_resize_58 : decode cX8_resize 58 = .ok (.iload 4, 2) := by decide +kernel
theorem dX8_resize_60 : decode cX8_resize 60 = .ok (.if_icmp .lt 16, 3) := by decide +kernel
theorem dX8_resize_63 : decode cX8_resize 63 = .ok (.aload_n 0, 1) := by decide +kernel
theorem dX8_resize_64 : decode cX8_resize 64 = .ok (.iload_n 1, 1) := by decide +kernel
theorem dX8_resize_65 : decode cX8_resize 65 = .ok (.iload 5, 2) := by decide +kernel
theorem dX8_resize_67 : decode cX8_resize 67 = .ok (.invokevirtual 136, 3) := by decide +kernel
theorem dX8_resize_70 : decode cX8_resize 70 = .ok (.iinc 5 (-1), 3) := by decide +kernel
theorem dX8_resize_73 : decode cX8_resize 73 = .ok (.goto (-17), 3) := by decide +kernel
theorem dX8_resize_76 : decode cX8_resize 76 = .ok (.return_, 1) := by decide +kernel
def L_X8_resize_56 (b0 fu : Nat)  : Nat → Nat → Int32 → Int32 → Int32 → tM → Option ((Unit) × tM)
  | 0, _, _, _, _, _ => none
  | n + 1, x0, x1, x4, x5, σ => ltb (L_X8_resize_56 b0 fu  n) (fun rc56 => if (x5) < (x4) then some ((), σ) else ckO b0 (σ) (x0) 8 (cll (m_X8_drop b0 fu (x0) (x1) (x5) (σ)) (fun v27 ρ28 => ltb ((x5) + Int32.ofInt (-1)) (fun y30 => rc56 (x0) (x1) (x4) (y30) (ρ28)))))
def m_X8_resize (b0 fu : Nat) (a0 : Nat) (p0 : Int32) (p1 : Int32) (σ : tM) : Option ((Unit) × tM) := grw σ (ckO b0 (σ) (a0) 8 (cll (m_X8_size b0 fu (a0) (p0) (σ)) (fun v3 ρ4 => ckO b0 (ρ4) (a0) 8 (cll (m_X8_setSize b0 fu (a0) (p0) (p1) (ρ4)) (fun v8 ρ9 => if (p1) = (v3) then some ((), ρ9) else ckO b0 (ρ9) (a0) 8 (cll (m_X8_noteChange b0 fu (a0) (p0) (1) (ρ9)) (fun v14 ρ15 => ckO b0 (ρ15) (a0) 8 (cll (m_X8_zeroBehind b0 fu (a0) (p0) ((if (v3) < (p1) then (v3) else (p1) : Int32)) (ρ15)) (fun v19 ρ20 => ltb (((((p1) + (256)) - (1)) / (256) : Int32)) (fun y22 => ltb ((((v3) - (1)) / (256) : Int32)) (fun y23 => L_X8_resize_56 b0 fu  (fu) (a0) (p0) (y22) (y23) (ρ20))))))))))))
set_option maxRecDepth 100000 in
set_option maxHeartbeats 1000000 in
theorem l_X8_resize_56 {p : Program} {l : Launch} {e : Env} {s : State} {m : MethodId} {args : Array Value} {below : List Frame} {meth : Method} {c : Code} {D : va_G} {aC : Nat → ClassId} {b0 fu : Nat} {σ0 τ : tM} {v : Unit}  (C : tCx p s m args meth c yX8_resize.cls cX8_resize 6 none D aC b0 σ0) (htab : ∀ x ∈ c.exceptionTable.toList, False) (hin : meth.name = yX8_resize.name)  : ∀ (n : Nat) (x0 : Nat) (x1 : Int32) (x4 : Int32) (x5 : Int32) (σ : tM), L_X8_resize_56 b0 fu  n x0 x1 x4 x5 σ = some (v, τ) → tX p l e s m args below meth c 6 4 96 D aC b0 σ0 (.inl none) τ 56 [(0, .ref (x0)), (1, .int (x1)), (4, .int (x4)), (5, .int (x5))] [] σ := by
  intro n
  induction n with
  | zero => intro x0 x1 x4 x5 σ hm; unfold L_X8_resize_56 at hm; cases hm
  | succ n ih =>
    intro x0 x1 x4 x5 σ hm
    unfold L_X8_resize_56 at hm
    obtain ⟨rc56, hrc⟩ : ∃ z, z = L_X8_resize_56 b0 fu  n := ⟨_, rfl⟩
    replace hm := ltb_e hm hrc
    rw [← hrc] at ih
    have hrc56 := ih
    clear ih hrc
    refine zx_iload C dX8_resize_56 3 rfl ?_
    refine zx_iload C dX8_resize_58 2 rfl ?_
    refine zx_icmp_lt C 76 dX8_resize_60 (by decide) (fun c24 => ?_) (fun c24 => ?_)
    · replace hm := ip_e hm c24
      obtain ⟨rfl, rfl⟩ := ret_e hm
      exact zx_vret C rfl rfl rfl dX8_resize_76
    · replace hm := in_e hm c24
      refine zx_aload_n C dX8_resize_63 0 rfl ?_
      refine zx_iload_n C dX8_resize_64 1 rfl ?_
      refine zx_iload C dX8_resize_65 3 rfl ?_
      obtain ⟨k25, i26, hm⟩ := ckO_e hm
      obtain ⟨v27, ρ28, h29, hm⟩ := cll_e hm
      refine zx_callV (σ := σ) C [.int (x1), .int (x5)] tC_8 k25 i26 Y_X8_drop W_5_42 W_5_44 Wp_33 (c_X8_drop h29) (by decide) (by decide) rfl (Nat.le_of_ble_eq_true rfl) dX8_resize_67 rfl ?_
      obtain ⟨y30, hy30⟩ : ∃ z : Int32, z = (x5) + Int32.ofInt (-1) := ⟨_, rfl⟩
      replace hm := ltb_e hm hy30
      refine zx_iinc C [(5, .int (y30)), (0, .ref (x0)), (1, .int (x1)), (4, .int (x4))] dX8_resize_70 3 rfl hy30.symm (by decide) rfl ?_
      refine zx_goto C 56 dX8_resize_73 (by decide) ?_
      exact zx_lv [1, 2, 3, 0] [(0, .ref (x0)), (1, .int (x1)), (4, .int (x4)), (5, .int (y30))] rfl (hrc56 _ _ _ _ _ hm)
set_option maxRecDepth 100000 in
set_option maxHeartbeats 1000000 in
theorem c_X8_resize {l : Launch} {D : va_G} {aC : Nat → ClassId} {b0 fu : Nat} {a0 : Nat} {p0 : Int32} {p1 : Int32} {σ τ : tM} {v : Unit} (hm : m_X8_resize b0 fu a0 p0 p1 σ = some (v, τ)) : tMt l D aC b0 yX8_resize (Cond.code yX8_resize cX8_resize 6 none) 4 96 [.ref (a0), .int (p0), .int (p1)] σ (.inl none) τ := by
  unfold m_X8_resize at hm
  obtain ⟨hg, hm⟩ := grw_e hm
  refine tMt_of (n := 0) rfl (Nat.le_of_ble_eq_true rfl) hg ?_
  intro p e s m below meth c C htab hin
  refine zx_lv [0, 1, 2] [(0, .ref (a0)), (1, .int (p0)), (2, .int (p1))] rfl ?_
  refine zx_aload_n C dX8_resize_0 0 rfl ?_
  refine zx_iload_n C dX8_resize_1 1 rfl ?_
  obtain ⟨k1, i2, hm⟩ := ckO_e hm
  obtain ⟨v3, ρ4, h5, hm⟩ := cll_e hm
  refine zx_callV (σ := σ) C [.int (p0)] tC_8 k1 i2 Y_X8_size W_4_224 W_4_133 W_4_134 (c_X8_size h5) (by decide) (by decide) rfl (Nat.le_of_ble_eq_true rfl) dX8_resize_2 rfl ?_
  refine zx_istore_n C [(3, .int (v3)), (0, .ref (a0)), (1, .int (p0)), (2, .int (p1))] dX8_resize_5 rfl (by decide) rfl ?_
  refine zx_aload_n C dX8_resize_6 1 rfl ?_
  refine zx_iload_n C dX8_resize_7 2 rfl ?_
  refine zx_iload_n C dX8_resize_8 3 rfl ?_
  obtain ⟨k6, i7, hm⟩ := ckO_e hm
  obtain ⟨v8, ρ9, h10, hm⟩ := cll_e hm
  refine zx_callV (σ := ρ4) C [.int (p0), .int (p1)] tC_8 k6 i7 Y_X8_setSize W_4_186 W_4_188 Wp_29 (c_X8_setSize h10) (by decide) (by decide) rfl (Nat.le_of_ble_eq_true rfl) dX8_resize_9 rfl ?_
  refine zx_iload_n C dX8_resize_12 3 rfl ?_
  refine zx_iload_n C dX8_resize_13 0 rfl ?_
  refine zx_icmp_ne C 18 dX8_resize_14 (by decide) (fun c11 => ?_) (fun c11 => ?_)
  · replace hm := in_e hm c11
    refine zx_aload_n C dX8_resize_18 1 rfl ?_
    refine zx_iload_n C dX8_resize_19 2 rfl ?_
    refine zx_iconst (v := 1) C dX8_resize_20 (by decide) ?_
    obtain ⟨k12, i13, hm⟩ := ckO_e hm
    obtain ⟨v14, ρ15, h16, hm⟩ := cll_e hm
    refine zx_callV (σ := ρ9) C [.int (p0), .int (1)] tC_8 k12 i13 Y_X8_noteChange W_2_160 W_2_162 Wp_7 (c_X8_noteChange h16) (by decide) (by decide) rfl (Nat.le_of_ble_eq_true rfl) dX8_resize_21 rfl ?_
    refine zx_aload_n C dX8_resize_24 1 rfl ?_
    refine zx_iload_n C dX8_resize_25 2 rfl ?_
    refine zx_iload_n C dX8_resize_26 3 rfl ?_
    refine zx_iload_n C dX8_resize_27 0 rfl ?_
    refine zx_min C W_4_179 W_2_106 W_1_10 W_2_107 (by decide) (by decide) (Nat.le_of_ble_eq_true rfl) dX8_resize_28 ?_
    obtain ⟨k17, i18, hm⟩ := ckO_e hm
    obtain ⟨v19, ρ20, h21, hm⟩ := cll_e hm
    refine zx_callV (σ := ρ15) C [.int (p0), .int ((if (v3) < (p1) then (v3) else (p1) : Int32))] tC_8 k17 i18 Y_X8_zeroBehind W_5_70 W_5_72 Wp_37 (c_X8_zeroBehind h21) (by decide) (by decide) rfl (Nat.le_of_ble_eq_true rfl) dX8_resize_31 rfl ?_
    refine zx_iload_n C dX8_resize_34 3 rfl ?_
    refine zx_sipush (v := 256) C dX8_resize_35 (by decide) ?_
    refine zx_iadd C dX8_resize_38 ?_
    refine zx_iconst (v := 1) C dX8_resize_39 (by decide) ?_
    refine zx_isub C dX8_resize_40 ?_
    refine zx_sipush (v := 256) C dX8_resize_41 (by decide) ?_
    refine zx_idiv C dX8_resize_44 (by decide) ?_
    refine zx_topi (fun y22 hy22 => ?_)
    replace hm := ltb_e hm hy22
    refine zx_istore C [(4, .int (y22)), (3, .int (v3)), (0, .ref (a0)), (1, .int (p0)), (2, .int (p1))] dX8_resize_45 (by decide) rfl ?_
    refine zx_iload_n C dX8_resize_47 1 rfl ?_
    refine zx_iconst (v := 1) C dX8_resize_48 (by decide) ?_
    refine zx_isub C dX8_resize_49 ?_
    refine zx_sipush (v := 256) C dX8_resize_50 (by decide) ?_
    refine zx_idiv C dX8_resize_53 (by decide) ?_
    refine zx_topi (fun y23 hy23 => ?_)
    replace hm := ltb_e hm hy23
    refine zx_istore C [(5, .int (y23)), (4, .int (y22)), (3, .int (v3)), (0, .ref (a0)), (1, .int (p0)), (2, .int (p1))] dX8_resize_54 (by decide) rfl ?_
    exact zx_lv [3, 4, 1, 0] [(0, .ref (a0)), (1, .int (p0)), (4, .int (y22)), (5, .int (y23))] rfl (l_X8_resize_56 C htab hin  _ _ _ _ _ _ hm)
  · replace hm := ip_e hm c11
    obtain ⟨rfl, rfl⟩ := ret_e hm
    exact zx_vret C rfl rfl rfl dX8_resize_17
abbrev cX8_removeEntry : ByteArray := prog_10_method_52_code
def yX8_removeEntry : MethodName := ⟨"SyncTree$Tree", "removeEntry", "(II)V"⟩
theorem Y_X8_removeEntry : tY yX8_removeEntry cX8_removeEntry 5 none 2 := ⟨W_5_36, W_1_4, ⟨by decide +kernel, by decide +kernel⟩, by decide +kernel⟩
theorem dX8_removeEntry_0 : decode cX8_removeEntry 0 = .ok (.aload_n 0, 1) := by decide +kernel
theorem dX8_removeEntry_1 : decode cX8_removeEntry 1 = .ok (.iload_n 1, 1) := by decide +kernel
theorem dX8_removeEntry_2 : decode cX8_removeEntry 2 = .ok (.iload_n 2, 1) := by decide +kernel
theorem dX8_removeEntry_3 : decode cX8_removeEntry 3 = .ok (.bipush 8, 2) := by decide +kernel
theorem dX8_removeEntry_5 : decode cX8_removeEntry 5 = .ok (.idiv, 1) := by decide +kernel
theorem dX8_removeEntry_6 : decode cX8_removeEntry 6 = .ok (.invokevirtual 112, 3) := by decide +kernel
theorem dX8_removeEntry_9 : decode cX8_removeEntry 9 = .ok (.invokestatic 104, 3) := by decide +kernel
theorem dX8_removeEntry_12 : decode cX8_removeEntry 12 = .ok (.istore_n 3, 1) := by decide +kernel
theorem dX8_removeEntry_13 : decode cX8_removeEntry 13 = .ok (.iconst 0, 1) := by decide +kernel
theorem dX8_removeEntry_14 : decode cX8_removeEntry 14 = .ok (.istore 4, 2) := by decide +kernel
theorem dX8_removeEntry_16 : decode cX8_removeEntry 16 = .ok (.iload 4, 2) := by decide +kernel
theorem dX8_removeEntry_18 : decode cX8_removeEntry 18 = .ok (.iconst 4, 1) := by decide +kernel
theorem dX8_removeEntry_19 : decode cX8_removeEntry 19 = .ok (.if_icmp .ge 27, 3) := by decide +kernel
theorem dX8_removeEntry_22 : decode cX8_removeEntry 22 = .ok (.aload_n 0, 1) := by decide +kernel
theorem dX8_removeEntry_23 : decode cX8_removeEntry 23 = .ok (.getfield 15, 3) := by decide +kernel
theorem dX8_removeEntry_26 : decode cX8_removeEntry 26 = .ok (.iload_n 3, 1) := by decide +kernel
theorem dX8_removeEntry_27 : decode cX8_removeEntry 27 = .ok (.iload_n 2, 1) := by decide +kernel
theorem dX8_removeEntry_28 : decode cX8_removeEntry 28 = .ok (.bipush 8, 2) := by decide +kernel
theorem dX8_removeEntry_30 : decode cX8_removeEntry 30 = .ok (.irem, 1) := by decide +kernel
theorem dX8_removeEntry_31 : decode cX8_removeEntry 31 = .ok (.iconst 4, 1) := by decide +kernel
theorem dX8_removeEntry_32 : decode cX8_removeEntry 32 = .ok (.imul, 1) := by decide +kernel
theorem dX8_removeEntry_33 : decode cX8_removeEntry 33 = .ok (.iload 4, 2) := by decide +kernel
theorem dX8_removeEntry_35 : decode cX8_removeEntry 35 = .ok (.iadd, 1) := by decide +kernel
theorem dX8_removeEntry_36 : decode cX8_removeEntry 36 = .ok (.lconst 0, 1) := by decide +kernel
theorem dX8_removeEntry_37 : decode cX8_removeEntry 37 = .ok (.invokevirtual 108, 3) := by decide +kernel
theorem dX8_removeEntry_40 : decode cX8_removeEntry 40 = .ok (.iinc 4 1, 3) := by decide +kernel
theorem dX8_removeEntry_43 : decode cX8_removeEntry 43 = .ok (.goto (-27), 3) := by decide +kernel
theorem dX8_removeEntry_46 : decode cX8_removeEntry 46 = .ok (.aload_n 0, 1) := by decide +kernel
theorem dX8_removeEntry_47 : decode cX8_removeEntry 47 = .ok (.iload_n 1, 1) := by decide +kernel
theorem dX8_removeEntry_48 : decode cX8_removeEntry 48 = .ok (.invokevirtual 53, 3) := by decide +kernel
theorem dX8_removeEntry_51 : decode cX8_removeEntry 51 = .ok (.sipush 256, 3) := by decide +kernel
theorem dX8_removeEntry_54 : decode cX8_removeEntry 54 = .ok (.idiv, 1) := by decide +kernel
theorem dX8_removeEntry_55 : decode cX8_removeEntry 55 = .ok (.iconst 1, 1) := by decide +kernel
theorem dX8_removeEntry_56 : decode cX8_removeEntry 56 = .ok (.isub, 1) := by decide +kernel
theorem dX8_removeEntry_57 : decode cX8_removeEntry 57 = .ok (.istore 4, 2) := by decide +kernel
theorem dX8_removeEntry_59 : decode cX8_removeEntry 59 = .ok (.iload 4, 2) := by decide +kernel
theorem dX8_removeEntry_61 : decode cX8_removeEntry 61 = .ok (.ifCond .lt 49, 3) := by decide +kernel
theorem dX8_removeEntry_64 : decode cX8_removeEntry 64 = .ok (.aload_n 0, 1) := by decide +kernel
theorem dX8_removeEntry_65 : decode cX8_removeEntry 65 = .ok (.getfield 15, 3) := by decide +kernel
theorem dX8_removeEntry_68 : decode cX8_removeEntry 68 = .ok (.aload_n 0, 1) := by decide +kernel
theorem dX8_removeEntry_69 : decode cX8_removeEntry 69 = .ok (.iload_n 1, 1) := by decide +kernel
theorem dX8_removeEntry_70 : decode cX8_removeEntry 70 = .ok (.iload 4, 2) := by decide +kernel
theorem dX8_removeEntry_72 : decode cX8_removeEntry 72 = .ok (.invokevirtual 112, 3) := by decide +kernel
theorem dX8_removeEntry_75 : decode cX8_removeEntry 75 = .ok (.invokestatic 104, 3) := by decide +kernel
theorem dX8_removeEntry_78 : decode cX8_removeEntry 78 = .ok (.iconst 0, 1) := by decide +kernel
theorem dX8_removeEntry_79 : decode cX8_removeEntry 79 = .ok (.invokevirtual 126, 3) := by decide +kernel
theorem dX8_removeEntry_82 : decode cX8_removeEntry 82 = .ok (.ifCond .ne 4, 3) := by decide +kernel
theorem dX8_removeEntry_85 : decode cX8_removeEntry 85 = .ok (.return_, 1) := by decide +kernel
theorem dX8_removeEntry_86 : decode cX8_removeEntry 86 = .ok (.aload_n 0, 1) := by decide +kernel
theorem dX8_removeEntry_87 : decode cX8_removeEntry 87 = .ok (.iload_n 1, 1) := by decide +kernel
theorem dX8_removeEntry_88 : decode cX8_removeEntry 88 = .ok (.iload 4, 2) := by decide +kernel
theorem dX8_removeEntry_90 : decode cX8_removeEntry 90 = .ok (.invokevirtual 136, 3) := by decide +kernel
theorem dX8_removeEntry_93 : decode cX8_removeEntry 93 = .ok (.aload_n 0, 1) := by decide +kernel
theorem dX8_removeEntry_94 : decode cX8_removeEntry 94 = .ok (.iload_n 1, 1) := by decide +kernel
theorem dX8_removeEntry_95 : decode cX8_removeEntry 95 = .ok (.iload 4, 2) := by decide +kernel
theorem dX8_removeEntry_97 : decode cX8_removeEntry 97 = .ok (.sipush 256, 3) := by decide +kernel
theorem dX8_removeEntry_100 : decode cX8_removeEntry 100 = .ok (.imul, 1) := by decide +kernel
theorem dX8_removeEntry_101 : decode cX8_removeEntry 101 = .ok (.invokevirtual 83, 3) := by decide +kernel
theorem dX8_removeEntry_104 : decode cX8_removeEntry 104 = .ok (.iinc 4 (-1), 3) := by decide +kernel
theorem dX8_removeEntry_107 : decode cX8_removeEntry 107 = .ok (.goto (-48), 3) := by decide +kernel
theorem dX8_removeEntry_110 : decode cX8_removeEntry 110 = .ok (.return_, 1) := by decide +kernel
def L_X8_removeEntry_59 (b0 fu : Nat)  : Nat → Nat → Int32 → Int32 → tM → Option ((Unit) × tM)
  | 0, _, _, _, _ => none
  | n + 1, x0, x1, x4, σ => ltb (L_X8_removeEntry_59 b0 fu  n) (fun rc59 => if (x4) < (0) then some ((), σ) else ckO b0 (σ) (x0) 8 (osm (tA (σ) (x0) 0) (fun a19 => cll (m_X8_pointer b0 fu (x0) (x1) (x4) (σ)) (fun v21 ρ22 => cll (m_X8_cellOf b0 fu (v21) (ρ22)) (fun v24 ρ25 => ckO b0 (ρ25) (a19) 5 (cll (m_X5_isZeroFrom b0 fu (a19) (v24) (0) (ρ25)) (fun v29 ρ30 => if (v29) = (0) then some ((), ρ30) else ckO b0 (ρ30) (x0) 8 (cll (m_X8_drop b0 fu (x0) (x1) (x4) (ρ30)) (fun v35 ρ36 => ckO b0 (ρ36) (x0) 8 (cll (m_X8_setSize b0 fu (x0) (x1) ((x4) * (256)) (ρ36)) (fun v40 ρ41 => ltb ((x4) + Int32.ofInt (-1)) (fun y43 => rc59 (x0) (x1) (y43) (ρ41)))))))))))))
def L_X8_removeEntry_16 (b0 fu : Nat)  : Nat → Nat → Int32 → Int32 → Int32 → Int32 → tM → Option ((Unit) × tM)
  | 0, _, _, _, _, _, _ => none
  | n + 1, x0, x1, x2, x3, x4, σ => ltb (L_X8_removeEntry_16 b0 fu  n) (fun rc16 => if (4) ≤ (x4) then ckO b0 (σ) (x0) 8 (cll (m_X8_size b0 fu (x0) (x1) (σ)) (fun v12 ρ13 => ltb ((((v12) / (256)) - (1) : Int32)) (fun y15 => L_X8_removeEntry_59 b0 fu  (fu) (x0) (x1) (y15) (ρ13)))) else ckO b0 (σ) (x0) 8 (osm (tA (σ) (x0) 0) (fun a47 => ckO b0 (σ) (a47) 5 (cll (m_X5_setWord b0 fu (a47) (x3) ((((x2) - (x2) / (8) * (8)) * (4)) + (x4)) (0) (σ)) (fun v51 ρ52 => ltb ((x4) + Int32.ofInt 1) (fun y54 => rc16 (x0) (x1) (x2) (x3) (y54) (ρ52)))))))
def m_X8_removeEntry (b0 fu : Nat) (a0 : Nat) (p0 : Int32) (p1 : Int32) (σ : tM) : Option ((Unit) × tM) := grw σ (ckO b0 (σ) (a0) 8 (cll (m_X8_pointer b0 fu (a0) (p0) ((p1) / (8)) (σ)) (fun v3 ρ4 => cll (m_X8_cellOf b0 fu (v3) (ρ4)) (fun v6 ρ7 => L_X8_removeEntry_16 b0 fu  (fu) (a0) (p0) (p1) (v6) (0) (ρ7)))))
set_option maxRecDepth 100000 in
set_option maxHeartbeats 1000000 in
theorem l_X8_removeEntry_59 {p : Program} {l : Launch} {e : Env} {s : State} {m : MethodId} {args : Array Value} {below : List Frame} {meth : Method} {c : Code} {D : va_G} {aC : Nat → ClassId} {b0 fu : Nat} {σ0 τ : tM} {v : Unit}  (C : tCx p s m args meth c yX8_removeEntry.cls cX8_removeEntry 5 none D aC b0 σ0) (htab : ∀ x ∈ c.exceptionTable.toList, False) (hin : meth.name = yX8_removeEntry.name)  : ∀ (n : Nat) (x0 : Nat) (x1 : Int32) (x4 : Int32) (σ : tM), L_X8_removeEntry_59 b0 fu  n x0 x1 x4 σ = some (v, τ) → tX p l e s m args below meth c 5 4 96 D aC b0 σ0 (.inl none) τ 59 [(0, .ref (x0)), (1, .int (x1)), (4, .int (x4))] [] σ := by
  intro n
  induction n with
  | zero => intro x0 x1 x4 σ hm; unfold L_X8_removeEntry_59 at hm; cases hm
  | succ n ih =>
    intro x0 x1 x4 σ hm
    unfold L_X8_removeEntry_59 at hm
    obtain ⟨rc59, hrc⟩ : ∃ z, z = L_X8_removeEntry_59 b0 fu  n := ⟨_, rfl⟩
    replace hm := ltb_e hm hrc
    rw [← hrc] at ih
    have hrc59 := ih
    clear ih hrc
    refine zx_iload C dX8_removeEntry_59 2 rfl ?_
    refine zx_if_lt C 110 dX8_removeEntry_61 (by decide) (fun c16 => ?_) (fun c16 => ?_)
    · replace hm := ip_e hm c16
      obtain ⟨rfl, rfl⟩ := ret_e hm
      exact zx_vret C rfl rfl rfl dX8_removeEntry_110
    · replace hm := in_e hm c16
      refine zx_aload_n C dX8_removeEntry_64 0 rfl ?_
      obtain ⟨k17, i18, hm⟩ := ckO_e hm
      obtain ⟨a19, h20, hm⟩ := osm_e hm
      refine zx_get (j := 0) C tC_8 k17 i18 ⟨by decide, Or.inl W_1_163⟩ dX8_removeEntry_65 (.ref a19) (rf_s h20) ?_
      refine zx_aload_n C dX8_removeEntry_68 0 rfl ?_
      refine zx_iload_n C dX8_removeEntry_69 1 rfl ?_
      refine zx_iload C dX8_removeEntry_70 2 rfl ?_
      obtain ⟨v21, ρ22, h23, hm⟩ := cll_e hm
      refine zx_callV (σ := σ) C [.int (x1), .int (x4)] tC_8 k17 i18 Y_X8_pointer W_4_109 W_4_110 W_4_111 (c_X8_pointer h23) (by decide) (by decide) rfl (Nat.le_of_ble_eq_true rfl) dX8_removeEntry_72 rfl ?_
      obtain ⟨v24, ρ25, h26, hm⟩ := cll_e hm
      refine zx_callS (σ := ρ22) C [.long (v21)] Y_X8_cellOf W_4_117 W_4_118 (c_X8_cellOf h26) (by decide) (by decide) rfl (Nat.le_of_ble_eq_true rfl) dX8_removeEntry_75 rfl ?_
      refine zx_iconst (v := 0) C dX8_removeEntry_78 (by decide) ?_
      obtain ⟨k27, i28, hm⟩ := ckO_e hm
      obtain ⟨v29, ρ30, h31, hm⟩ := cll_e hm
      refine zx_callV (σ := ρ25) C [.int (v24), .int (0)] tC_5 k27 i28 Y_X5_isZeroFrom W_5_37 W_5_38 W_5_39 (c_X5_isZeroFrom h31) (by decide) (by decide) rfl (Nat.le_of_ble_eq_true rfl) dX8_removeEntry_79 rfl ?_
      refine zx_if_ne C 86 dX8_removeEntry_82 (by decide) (fun c32 => ?_) (fun c32 => ?_)
      · replace hm := in_e hm c32
        refine zx_aload_n C dX8_removeEntry_86 0 rfl ?_
        refine zx_iload_n C dX8_removeEntry_87 1 rfl ?_
        refine zx_iload C dX8_removeEntry_88 2 rfl ?_
        obtain ⟨k33, i34, hm⟩ := ckO_e hm
        obtain ⟨v35, ρ36, h37, hm⟩ := cll_e hm
        refine zx_callV (σ := ρ30) C [.int (x1), .int (x4)] tC_8 k33 i34 Y_X8_drop W_5_42 W_5_44 Wp_33 (c_X8_drop h37) (by decide) (by decide) rfl (Nat.le_of_ble_eq_true rfl) dX8_removeEntry_90 rfl ?_
        refine zx_aload_n C dX8_removeEntry_93 0 rfl ?_
        refine zx_iload_n C dX8_removeEntry_94 1 rfl ?_
        refine zx_iload C dX8_removeEntry_95 2 rfl ?_
        refine zx_sipush (v := 256) C dX8_removeEntry_97 (by decide) ?_
        refine zx_imul C dX8_removeEntry_100 ?_
        obtain ⟨k38, i39, hm⟩ := ckO_e hm
        obtain ⟨v40, ρ41, h42, hm⟩ := cll_e hm
        refine zx_callV (σ := ρ36) C [.int (x1), .int ((x4) * (256))] tC_8 k38 i39 Y_X8_setSize W_4_186 W_4_188 Wp_29 (c_X8_setSize h42) (by decide) (by decide) rfl (Nat.le_of_ble_eq_true rfl) dX8_removeEntry_101 rfl ?_
        obtain ⟨y43, hy43⟩ : ∃ z : Int32, z = (x4) + Int32.ofInt (-1) := ⟨_, rfl⟩
        replace hm := ltb_e hm hy43
        refine zx_iinc C [(4, .int (y43)), (0, .ref (x0)), (1, .int (x1))] dX8_removeEntry_104 2 rfl hy43.symm (by decide) rfl ?_
        refine zx_goto C 59 dX8_removeEntry_107 (by decide) ?_
        exact zx_lv [1, 2, 0] [(0, .ref (x0)), (1, .int (x1)), (4, .int (y43))] rfl (hrc59 _ _ _ _ hm)
      · replace hm := ip_e hm c32
        obtain ⟨rfl, rfl⟩ := ret_e hm
        exact zx_vret C rfl rfl rfl dX8_removeEntry_85
set_option maxRecDepth 100000 in
set_option maxHeartbeats 1000000 in
theorem l_X8_removeEntry_16 {p : Program} {l : Launch} {e : Env} {s : State} {m : MethodId} {args : Array Value} {below : List Frame} {meth : Method} {c : Code} {D : va_G} {aC : Nat → ClassId} {b0 fu : Nat} {σ0 τ : tM} {v : Unit}  (C : tCx p s m args meth c yX8_removeEntry.cls cX8_removeEntry 5 none D aC b0 σ0) (htab : ∀ x ∈ c.exceptionTable.toList, False) (hin : meth.name = yX8_removeEntry.name)  : ∀ (n : Nat) (x0 : Nat) (x1 : Int32) (x2 : Int32) (x3 : Int32) (x4 : Int32) (σ : tM), L_X8_removeEntry_16 b0 fu  n x0 x1 x2 x3 x4 σ = some (v, τ) → tX p l e s m args below meth c 5 4 96 D aC b0 σ0 (.inl none) τ 16 [(0, .ref (x0)), (1, .int (x1)), (2, .int (x2)), (3, .int (x3)), (4, .int (x4))] [] σ := by
  intro n
  induction n with
  | zero => intro x0 x1 x2 x3 x4 σ hm; unfold L_X8_removeEntry_16 at hm; cases hm
  | succ n ih =>
    intro x0 x1 x2 x3 x4 σ hm
    unfold L_X8_removeEntry_16 at hm
    obtain ⟨rc16, hrc⟩ : ∃ z, z = L_X8_removeEntry_16 b0 fu  n := ⟨_, rfl⟩
    replace hm := ltb_e hm hrc
    rw [← hrc] at ih
    have hrc16 := ih
    clear ih hrc
    refine zx_iload C dX8_removeEntry_16 4 rfl ?_
    refine zx_iconst (v := 4) C dX8_removeEntry_18 (by decide) ?_
    refine zx_icmp_ge C 46 dX8_removeEntry_19 (by decide) (fun c9 => ?_) (fun c9 => ?_)
    · replace hm := ip_e hm c9
      refine zx_aload_n C dX8_removeEntry_46 0 rfl ?_
      refine zx_iload_n C dX8_removeEntry_47 1 rfl ?_
      obtain ⟨k10, i11, hm⟩ := ckO_e hm
      obtain ⟨v12, ρ13, h14, hm⟩ := cll_e hm
      refine zx_callV (σ := σ) C [.int (x1)] tC_8 k10 i11 Y_X8_size W_4_224 W_4_133 W_4_134 (c_X8_size h14) (by decide) (by decide) rfl (Nat.le_of_ble_eq_true rfl) dX8_removeEntry_48 rfl ?_
      refine zx_sipush (v := 256) C dX8_removeEntry_51 (by decide) ?_
      refine zx_idiv C dX8_removeEntry_54 (by decide) ?_
      refine zx_iconst (v := 1) C dX8_removeEntry_55 (by decide) ?_
      refine zx_isub C dX8_removeEntry_56 ?_
      refine zx_topi (fun y15 hy15 => ?_)
      replace hm := ltb_e hm hy15
      refine zx_istore C [(4, .int (y15)), (0, .ref (x0)), (1, .int (x1)), (2, .int (x2)), (3, .int (x3))] dX8_removeEntry_57 (by decide) rfl ?_
      exact zx_lv [1, 2, 0] [(0, .ref (x0)), (1, .int (x1)), (4, .int (y15))] rfl (l_X8_removeEntry_59 C htab hin  _ _ _ _ _ hm)
    · replace hm := in_e hm c9
      refine zx_aload_n C dX8_removeEntry_22 0 rfl ?_
      obtain ⟨k45, i46, hm⟩ := ckO_e hm
      obtain ⟨a47, h48, hm⟩ := osm_e hm
      refine zx_get (j := 0) C tC_8 k45 i46 ⟨by decide, Or.inl W_1_163⟩ dX8_removeEntry_23 (.ref a47) (rf_s h48) ?_
      refine zx_iload_n C dX8_removeEntry_26 3 rfl ?_
      refine zx_iload_n C dX8_removeEntry_27 2 rfl ?_
      refine zx_bipush (v := 8) C dX8_removeEntry_28 (by decide) ?_
      refine zx_irem C dX8_removeEntry_30 (by decide) ?_
      refine zx_iconst (v := 4) C dX8_removeEntry_31 (by decide) ?_
      refine zx_imul C dX8_removeEntry_32 ?_
      refine zx_iload C dX8_removeEntry_33 4 rfl ?_
      refine zx_iadd C dX8_removeEntry_35 ?_
      refine zx_lconst (v := 0) C dX8_removeEntry_36 (by decide) ?_
      obtain ⟨k49, i50, hm⟩ := ckO_e hm
      obtain ⟨v51, ρ52, h53, hm⟩ := cll_e hm
      refine zx_callV (σ := σ) C [.int (x3), .int ((((x2) - (x2) / (8) * (8)) * (4)) + (x4)), .long (0)] tC_5 k49 i50 Y_X5_setWord W_4_216 W_4_217 W_4_218 (c_X5_setWord h53) (by decide) (by decide) rfl (Nat.le_of_ble_eq_true rfl) dX8_removeEntry_37 rfl ?_
      obtain ⟨y54, hy54⟩ : ∃ z : Int32, z = (x4) + Int32.ofInt 1 := ⟨_, rfl⟩
      replace hm := ltb_e hm hy54
      refine zx_iinc C [(4, .int (y54)), (0, .ref (x0)), (1, .int (x1)), (2, .int (x2)), (3, .int (x3))] dX8_removeEntry_40 4 rfl hy54.symm (by decide) rfl ?_
      refine zx_goto C 16 dX8_removeEntry_43 (by decide) ?_
      exact zx_lv [1, 2, 3, 4, 0] [(0, .ref (x0)), (1, .int (x1)), (2, .int (x2)), (3, .int (x3)), (4, .int (y54))] rfl (hrc16 _ _ _ _ _ _ hm)
set_option maxRecDepth 100000 in
set_option maxHeartbeats 1000000 in
theorem c_X8_removeEntry {l : Launch} {D : va_G} {aC : Nat → ClassId} {b0 fu : Nat} {a0 : Nat} {p0 : Int32} {p1 : Int32} {σ τ : tM} {v : Unit} (hm : m_X8_removeEntry b0 fu a0 p0 p1 σ = some (v, τ)) : tMt l D aC b0 yX8_removeEntry (Cond.code yX8_removeEntry cX8_removeEntry 5 none) 4 96 [.ref (a0), .int (p0), .int (p1)] σ (.inl none) τ := by
  unfold m_X8_removeEntry at hm
  obtain ⟨hg, hm⟩ := grw_e hm
  refine tMt_of (n := 0) rfl (Nat.le_of_ble_eq_true rfl) hg ?_
  intro p e s m below meth c C htab hin
  refine zx_lv [0, 1, 2] [(0, .ref (a0)), (1, .int (p0)), (2, .int (p1))] rfl ?_
  refine zx_aload_n C dX8_removeEntry_0 0 rfl ?_
  refine zx_iload_n C dX8_removeEntry_1 1 rfl ?_
  refine zx_iload_n C dX8_removeEntry_2 2 rfl ?_
  refine zx_bipush (v := 8) C dX8_removeEntry_3 (by decide) ?_
  refine zx_idiv C dX8_removeEntry_5 (by decide) ?_
  obtain ⟨k1, i2, hm⟩ := ckO_e hm
  obtain ⟨v3, ρ4, h5, hm⟩ := cll_e hm
  refine zx_callV (σ := σ) C [.int (p0), .int ((p1) / (8))] tC_8 k1 i2 Y_X8_pointer W_4_109 W_4_110 W_4_111 (c_X8_pointer h5) (by decide) (by decide) rfl (Nat.le_of_ble_eq_true rfl) dX8_removeEntry_6 rfl ?_
  obtain ⟨v6, ρ7, h8, hm⟩ := cll_e hm
  refine zx_callS (σ := ρ4) C [.long (v3)] Y_X8_cellOf W_4_117 W_4_118 (c_X8_cellOf h8) (by decide) (by decide) rfl (Nat.le_of_ble_eq_true rfl) dX8_removeEntry_9 rfl ?_
  refine zx_istore_n C [(3, .int (v6)), (0, .ref (a0)), (1, .int (p0)), (2, .int (p1))] dX8_removeEntry_12 rfl (by decide) rfl ?_
  refine zx_iconst (v := 0) C dX8_removeEntry_13 (by decide) ?_
  refine zx_istore C [(4, .int (0)), (3, .int (v6)), (0, .ref (a0)), (1, .int (p0)), (2, .int (p1))] dX8_removeEntry_14 (by decide) rfl ?_
  exact zx_lv [2, 3, 4, 1, 0] [(0, .ref (a0)), (1, .int (p0)), (2, .int (p1)), (3, .int (v6)), (4, .int (0))] rfl (l_X8_removeEntry_16 C htab hin  _ _ _ _ _ _ _ hm)
