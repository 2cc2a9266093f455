abbrev cX8_find : ByteArray := prog_10_method_47_code
def yX8_find : MethodName := ⟨"SyncTree$Tree", "find", "(I[BII)I"⟩
theorem Y_X8_find : tY yX8_find cX8_find 10 (some .int) 4 := ⟨W_4_103, W_1_4, ⟨by decide +kernel, by decide +kernel⟩, by decide +kernel⟩
theorem dX8_find_0 : decode cX8_find 0 = .ok (.iload 4, 2) := by decide +kernel
theorem dX8_find_2 : decode cX8_find 2 = .ok (.iconst 1, 1) := by decide +kernel
theorem dX8_find_3 : decode cX8_find 3 = .ok (.if_icmp .lt 23, 3) := by decide +kernel
theorem dX8_find_6 : decode cX8_find 6 = .ok (.iload 4, 2) := by decide +kernel
theorem dX8_find_8 : decode cX8_find 8 = .ok (.bipush 28, 2) := by decide +kernel
theorem dX8_find_10 : decode cX8_find 10 = .ok (.if_icmp .gt 16, 3) := by decide +kernel
theorem dX8_find_13 : decode cX8_find 13 = .ok (.iload_n 3, 1) := by decide +kernel
theorem dX8_find_14 : decode cX8_find 14 = .ok (.ifCond .lt 12, 3) := by decide +kernel
theorem dX8_find_17 : decode cX8_find 17 = .ok (.iload_n 3, 1) := by decide +kernel
theorem dX8_find_18 : decode cX8_find 18 = .ok (.aload_n 2, 1) := by decide +kernel
theorem dX8_find_19 : decode cX8_find 19 = .ok (.arraylength, 1) := by decide +kernel
theorem dX8_find_20 : decode cX8_find 20 = .ok (.iload 4, 2) := by decide +kernel
theorem dX8_find_22 : decode cX8_find 22 = .ok (.isub, 1) := by decide +kernel
theorem dX8_find_23 : decode cX8_find 23 = .ok (.if_icmp .le 5, 3) := by decide +kernel
theorem dX8_find_26 : decode cX8_find 26 = .ok (.iconst (-1), 1) := by decide +kernel
theorem dX8_find_27 : decode cX8_find 27 = .ok (.ireturn, 1) := by decide +kernel
theorem dX8_find_28 : decode cX8_find 28 = .ok (.aload_n 0, 1) := by decide +kernel
theorem dX8_find_29 : decode cX8_find 29 = .ok (.iload_n 1, 1) := by decide +kernel
theorem dX8_find_30 : decode cX8_find 30 = .ok (.invokevirtual 169, 3) := by decide +kernel
theorem dX8_find_33 : decode cX8_find 33 = .ok (.istore 5, 2) := by decide +kernel
theorem dX8_find_35 : decode cX8_find 35 = .ok (.iconst 0, 1) := by decide +kernel
theorem dX8_find_36 : decode cX8_find 36 = .ok (.istore 6, 2) := by decide +kernel
theorem dX8_find_38 : decode cX8_find 38 = .ok (.iconst 0, 1) := by decide +kernel
theorem dX8_find_39 : decode cX8_find 39 = .ok (.istore 7, 2) := by decide +kernel
theorem dX8_find_41 : decode cX8_find 41 = .ok (.iload 7, 2) := by decide +kernel
theorem dX8_find_43 : decode cX8_find 43 = .ok (.iload 5, 2) := by decide +kernel
theorem dX8_find_45 : decode cX8_find 45 = .ok (.if_icmp .ge 123, 3) := by decide +kernel
theorem dX8_find_48 : decode cX8_find 48 = .ok (.iload 7, 2) := by decide +kernel
theorem dX8_find_50 : decode cX8_find 50 = .ok (.bipush 8, 2) := by decide +kernel
theorem dX8_find_52 : decode cX8_find 52 = .ok (.irem, 1) := by decide +kernel
theorem dX8_find_53 : decode cX8_find 53 = .ok (.bipush 32, 2) := by decide +kernel
theorem dX8_find_55 : decode cX8_find 55 = .ok (.imul, 1) := by decide +kernel
theorem dX8_find_56 : decode cX8_find 56 = .ok (.istore 8, 2) := by decide +kernel
theorem dX8_find_58 : decode cX8_find 58 = .ok (.iload 8, 2) := by decide +kernel
theorem dX8_find_60 : decode cX8_find 60 = .ok (.ifCond .ne 18, 3) := by decide +kernel
theorem dX8_find_63 : decode cX8_find 63 = .ok (.aload_n 0, 1) := by decide +kernel
theorem dX8_find_64 : decode cX8_find 64 = .ok (.iload_n 1, 1) := by decide +kernel
theorem dX8_find_65 : decode cX8_find 65 = .ok (.iload 7, 2) := by decide +kernel
theorem dX8_find_67 : decode cX8_find 67 = .ok (.bipush 8, 2) := by decide +kernel
theorem dX8_find_69 : decode cX8_find 69 = .ok (.idiv, 1) := by decide +kernel
theorem dX8_find_70 : decode cX8_find 70 = .ok (.invokevirtual 112, 3) := by decide +kernel
theorem dX8_find_73 : decode cX8_find 73 = .ok (.invokestatic 104, 3) := by decide +kernel
theorem dX8_find_76 : decode cX8_find 76 = .ok (.istore 6, 2) := by decide +kernel
theorem dX8_find_78 : decode cX8_find 78 = .ok (.aload_n 0, 1) := by decide +kernel
theorem dX8_find_79 : decode cX8_find 79 = .ok (.getfield 15, 3) := by decide +kernel
theorem dX8_find_82 : decode cX8_find 82 = .ok (.iload 6, 2) := by decide +kernel
theorem dX8_find_84 : decode cX8_find 84 = .ok (.iload 8, 2) := by decide +kernel
theorem dX8_find_86 : decode cX8_find 86 = .ok (.bipush 28, 2) := by decide +kernel
theorem dX8_find_88 : decode cX8_find 88 = .ok (.iadd, 1) := by decide +kernel
theorem dX8_find_89 : decode cX8_find 89 = .ok (.invokevirtual 86, 3) := by decide +kernel
theorem dX8_find_92 : decode cX8_find 92 = .ok (.iload 4, 2) := by decide +kernel
theorem dX8_find_94 : decode cX8_find 94 = .ok (.if_icmp .ne 7, 3) := by decide +kernel
theorem dX8_find_97 : decode cX8_find 97 = .ok (.iconst 0, 1) := by decide +kernel
theorem dX8_find_98 : decode cX8_find 98 = .ok (.goto 4, 3) := by decide +kernel
theorem dX8_find_101 : decode cX8_find 101 = .ok (.iconst (-1), 1) := by decide +kernel
theorem dX8_find_102 : decode cX8_find 102 = .ok (.istore 9, 2) := by decide +kernel
theorem dX8_find_104 : decode cX8_find 104 = .ok (.iload 9, 2) := by decide +kernel
theorem dX8_find_106 : decode cX8_find 106 = .ok (.ifCond .lt 46, 3) := by decide +kernel
theorem dX8_find_109 : decode cX8_find 109 = .ok (.iload 9, 2) := by decide +kernel
theorem dX8_find_111 : decode cX8_find 111 = .ok (.iload 4, 2) := by decide +kernel
theorem dX8_find_113 : decode cX8_find 113 = .ok (.if_icmp .ge 39, 3) := by decide +kernel
theorem dX8_find_116 : decode cX8_find 116 = .ok (.aload_n 0, 1) := by decide +kernel
theorem dX8_find_117 : decode cX8_find 117 = .ok (.getfield 15, 3) := by decide +kernel
theorem dX8_find_120 : decode cX8_find 120 = .ok (.iload 6, 2) := by decide +kernel
theorem dX8_find_122 : decode cX8_find 122 = .ok (.iload 8, 2) := by decide +kernel
theorem dX8_find_124 : decode cX8_find 124 = .ok (.iload 9, 2) := by decide +kernel
theorem dX8_find_126 : decode cX8_find 126 = .ok (.iadd, 1) := by decide +kernel
theorem dX8_find_127 : decode cX8_find 127 = .ok (.invokevirtual 86, 3) := by decide +kernel
theorem dX8_find_130 : decode cX8_find 130 = .ok (.aload_n 2, 1) := by decide +kernel
theorem dX8_find_131 : decode cX8_find 131 = .ok (.iload_n 3, 1) := by decide +kernel
theorem dX8_find_132 : decode cX8_find 132 = .ok (.iload 9, 2) := by decide +kernel
theorem dX8_find_134 : decode cX8_find 134 = .ok (.iadd, 1) := by decide +kernel
theorem dX8_find_135 : decode cX8_find 135 = .ok (.baload, 1) := by decide +kernel
theorem dX8_find_136 : decode cX8_find 136 = .ok (.if_icmp .ne 10, 3) := by decide +kernel
theorem dX8_find_139 : decode cX8_find 139 = .ok (.iload 9, 2) := by decide +kernel
theorem dX8_find_141 : decode cX8_find 141 = .ok (.iconst 1, 1) := by decide +kernel
theorem dX8_find_142 : decode cX8_find 142 = .ok (.iadd, 1) := by decide +kernel
theorem dX8_find_143 : decode cX8_find 143 = .ok (.goto 4, 3) := by decide +kernel
theorem dX8_find_146 : decode cX8_find 146 = .ok (.iconst (-1), 1) := by decide +kernel
theorem dX8_find_147 : decode cX8_find 147 = .ok (.istore 9, 2) := by decide +kernel
theorem dX8_find_149 : decode cX8_find 149 = .ok (.goto (-45), 3) := by decide +kernel
theorem dX8_find_152 : decode cX8_find 152 = .ok (.iload 9, 2) := by decide +kernel
theorem dX8_find_154 : decode cX8_find 154 = .ok (.iload 4, 2) := by decide +kernel
theorem dX8_find_156 : decode cX8_find 156 = .ok (.if_icmp .ne 6, 3) := by decide +kernel
theorem dX8_find_159 : decode cX8_find 159 = .ok (.iload 7, 2) := by decide +kernel
theorem dX8_find_161 : decode cX8_find 161 = .ok (.ireturn, 1) := by decide +kernel
theorem dX8_find_162 : decode cX8_find 162 = .ok (.iinc 7 1, 3) := by decide +kernel
theorem dX8_find_165 : decode cX8_find 165 = .ok (.goto (-124), 3) := by decide +kernel
theorem dX8_find_168 : decode cX8_find 168 = .ok (.iconst (-1), 1) := by decide +kernel
theorem dX8_find_169 : decode cX8_find 169 = .ok (.ireturn, 1) := by decide +kernel
def J_X8_find_26 (b0 fu : Nat)   (σ : tM) : Option ((Int32) × tM) := some ((-1), σ)
def J_X8_find_152 (b0 fu : Nat) (rc41 : Nat → Int32 → Nat → Int32 → Int32 → Int32 → Int32 → Int32 → tM → Option ((Int32) × tM)) (x0 : Nat) (x1 : Int32) (x2 : Nat) (x3 : Int32) (x4 : Int32) (x5 : Int32) (x6 : Int32) (x7 : Int32) (x9 : Int32) (σ : tM) : Option ((Int32) × tM) := if (x9) = (x4) then some (x7, σ) else ltb ((x7) + Int32.ofInt 1) (fun y28 => rc41 (x0) (x1) (x2) (x3) (x4) (x5) (x6) (y28) (σ))
def J_X8_find_147 (b0 fu : Nat) (rc41 : Nat → Int32 → Nat → Int32 → Int32 → Int32 → Int32 → Int32 → tM → Option ((Int32) × tM)) (rc104 : Nat → Int32 → Nat → Int32 → Int32 → Int32 → Int32 → Int32 → Int32 → Int32 → tM → Option ((Int32) × tM)) (x0 : Nat) (x1 : Int32) (x2 : Nat) (x3 : Int32) (x4 : Int32) (x5 : Int32) (x6 : Int32) (x7 : Int32) (x8 : Int32) (s0 : Int32) (σ : tM) : Option ((Int32) × tM) := rc104 (x0) (x1) (x2) (x3) (x4) (x5) (x6) (x7) (x8) (s0) (σ)
def L_X8_find_104 (b0 fu : Nat) (rc41 : Nat → Int32 → Nat → Int32 → Int32 → Int32 → Int32 → Int32 → tM → Option ((Int32) × tM)) : Nat → Nat → Int32 → Nat → Int32 → Int32 → Int32 → Int32 → Int32 → Int32 → Int32 → tM → Option ((Int32) × tM)
  | 0, _, _, _, _, _, _, _, _, _, _, _ => none
  | n + 1, x0, x1, x2, x3, x4, x5, x6, x7, x8, x9, σ => ltb (L_X8_find_104 b0 fu rc41 n) (fun rc104 => if (x9) < (0) then J_X8_find_152 b0 fu rc41  (x0) (x1) (x2) (x3) (x4) (x5) (x6) (x7) (x9) (σ) else if (x4) ≤ (x9) then J_X8_find_152 b0 fu rc41  (x0) (x1) (x2) (x3) (x4) (x5) (x6) (x7) (x9) (σ) else ckO b0 (σ) (x0) 8 (osm (tA (σ) (x0) 0) (fun a32 => ckO b0 (σ) (a32) 5 (cll (m_X5_octet b0 fu (a32) (x6) ((x8) + (x9)) (σ)) (fun v36 ρ37 => ckR b0 (ρ37) (x2) 1 (fun n41 => ckI ((x3) + (x9)) (n41) (if (v36) = (tI (ρ37) (x2) (((x3) + (x9)).toNatClampNeg)) then J_X8_find_147 b0 fu rc41 rc104  (x0) (x1) (x2) (x3) (x4) (x5) (x6) (x7) (x8) ((x9) + (1)) (ρ37) else J_X8_find_147 b0 fu rc41 rc104  (x0) (x1) (x2) (x3) (x4) (x5) (x6) (x7) (x8) ((-1)) (ρ37))))))))
def J_X8_find_102 (b0 fu : Nat) (rc41 : Nat → Int32 → Nat → Int32 → Int32 → Int32 → Int32 → Int32 → tM → Option ((Int32) × tM)) (x0 : Nat) (x1 : Int32) (x2 : Nat) (x3 : Int32) (x4 : Int32) (x5 : Int32) (x6 : Int32) (x7 : Int32) (x8 : Int32) (s0 : Int32) (σ : tM) : Option ((Int32) × tM) := L_X8_find_104 b0 fu rc41 (fu) (x0) (x1) (x2) (x3) (x4) (x5) (x6) (x7) (x8) (s0) (σ)
def J_X8_find_78 (b0 fu : Nat) (rc41 : Nat → Int32 → Nat → Int32 → Int32 → Int32 → Int32 → Int32 → tM → Option ((Int32) × tM)) (x0 : Nat) (x1 : Int32) (x2 : Nat) (x3 : Int32) (x4 : Int32) (x5 : Int32) (x6 : Int32) (x7 : Int32) (x8 : Int32) (σ : tM) : Option ((Int32) × tM) := ckO b0 (σ) (x0) 8 (osm (tA (σ) (x0) 0) (fun a18 => ckO b0 (σ) (a18) 5 (cll (m_X5_octet b0 fu (a18) (x6) ((x8) + (28)) (σ)) (fun v22 ρ23 => if (v22) = (x4) then J_X8_find_102 b0 fu rc41  (x0) (x1) (x2) (x3) (x4) (x5) (x6) (x7) (x8) (0) (ρ23) else J_X8_find_102 b0 fu rc41  (x0) (x1) (x2) (x3) (x4) (x5) (x6) (x7) (x8) ((-1)) (ρ23)))))
def L_X8_find_41 (b0 fu : Nat)  : Nat → Nat → Int32 → Nat → Int32 → Int32 → Int32 → Int32 → Int32 → tM → Option ((Int32) × tM)
  | 0, _, _, _, _, _, _, _, _, _ => none
  | n + 1, x0, x1, x2, x3, x4, x5, x6, x7, σ => ltb (L_X8_find_41 b0 fu  n) (fun rc41 => if (x5) ≤ (x7) then some ((-1), σ) else ltb ((((x7) - (x7) / (8) * (8)) * (32) : Int32)) (fun y14 => if (y14) = (0) then ckO b0 (σ) (x0) 8 (cll (m_X8_pointer b0 fu (x0) (x1) ((x7) / (8)) (σ)) (fun v46 ρ47 => cll (m_X8_cellOf b0 fu (v46) (ρ47)) (fun v49 ρ50 => J_X8_find_78 b0 fu rc41  (x0) (x1) (x2) (x3) (x4) (x5) (v49) (x7) (y14) (ρ50)))) else J_X8_find_78 b0 fu rc41  (x0) (x1) (x2) (x3) (x4) (x5) (x6) (x7) (y14) (σ)))
def m_X8_find (b0 fu : Nat) (a0 : Nat) (p0 : Int32) (p1 : Nat) (p2 : Int32) (p3 : Int32) (σ : tM) : Option ((Int32) × tM) := grw σ (if (p3) < (1) then J_X8_find_26 b0 fu    (σ) else if (28) < (p3) then J_X8_find_26 b0 fu    (σ) else if (p2) < (0) then J_X8_find_26 b0 fu    (σ) else ckR b0 (σ) (p1) 1 (fun n6 => if (p2) ≤ ((nI n6) - (p3)) then ckO b0 (σ) (a0) 8 (cll (m_X8_entries b0 fu (a0) (p0) (σ)) (fun v10 ρ11 => L_X8_find_41 b0 fu  (fu) (a0) (p0) (p1) (p2) (p3) (v10) (0) (0) (ρ11))) else J_X8_find_26 b0 fu    (σ)))
set_option maxRecDepth 100000 in
set_option maxHeartbeats 1000000 in
theorem j_X8_find_26 {p : Program} {l : Launch} {e : Env} {s : State} {m : MethodId} {args : Array Value} {below : List Frame} {meth : Method} {c : Code} {D : va_G} {aC : Nat → ClassId} {b0 fu : Nat} {σ0 τ : tM} {v : Int32}  (C : tCx p l s m args meth c yX8_find.cls cX8_find 10 (some .int) D aC b0 σ0) (htab : ∀ x ∈ c.exceptionTable.toList, False) (hin : meth.name = yX8_find.name)   {σ : tM} (hm : J_X8_find_26 b0 fu   σ = some (v, τ)) : tX p l e s m args below meth c 10 2 47 D aC b0 σ0 (.inl (some (.int v))) τ 26 [] [] σ := by
  unfold J_X8_find_26 at hm
  refine zx_iconst (v := (-1)) C dX8_find_26 (by decide) ?_
  obtain ⟨rfl, rfl⟩ := ret_e hm
  exact zx_iret C rfl rfl rfl dX8_find_27
set_option maxRecDepth 100000 in
set_option maxHeartbeats 1000000 in
theorem j_X8_find_152 {p : Program} {l : Launch} {e : Env} {s : State} {m : MethodId} {args : Array Value} {below : List Frame} {meth : Method} {c : Code} {D : va_G} {aC : Nat → ClassId} {b0 fu : Nat} {σ0 τ : tM} {v : Int32} {rc41 : Nat → Int32 → Nat → Int32 → Int32 → Int32 → Int32 → Int32 → tM → Option ((Int32) × tM)} (C : tCx p l s m args meth c yX8_find.cls cX8_find 10 (some .int) D aC b0 σ0) (htab : ∀ x ∈ c.exceptionTable.toList, False) (hin : meth.name = yX8_find.name) (hrc41 : ∀ (x0 : Nat) (x1 : Int32) (x2 : Nat) (x3 : Int32) (x4 : Int32) (x5 : Int32) (x6 : Int32) (x7 : Int32) (ρ : tM), rc41 x0 x1 x2 x3 x4 x5 x6 x7 ρ = some (v, τ) → tX p l e s m args below meth c 10 2 47 D aC b0 σ0 (.inl (some (.int v))) τ 41 [(0, .ref (x0)), (1, .int (x1)), (2, .ref (x2)), (3, .int (x3)), (4, .int (x4)), (5, .int (x5)), (6, .int (x6)), (7, .int (x7))] [] ρ) {x0 : Nat} {x1 : Int32} {x2 : Nat} {x3 : Int32} {x4 : Int32} {x5 : Int32} {x6 : Int32} {x7 : Int32} {x9 : Int32} {σ : tM} (hm : J_X8_find_152 b0 fu rc41 x0 x1 x2 x3 x4 x5 x6 x7 x9 σ = some (v, τ)) : tX p l e s m args below meth c 10 2 47 D aC b0 σ0 (.inl (some (.int v))) τ 152 [(0, .ref (x0)), (1, .int (x1)), (2, .ref (x2)), (3, .int (x3)), (4, .int (x4)), (5, .int (x5)), (6, .int (x6)), (7, .int (x7)), (9, .int (x9))] [] σ := by
  unfold J_X8_find_152 at hm
  refine zx_iload C dX8_find_152 8 rfl ?_
  refine zx_iload C dX8_find_154 4 rfl ?_
  refine zx_icmp_ne C 162 dX8_find_156 (by decide) (fun c27 => ?_) (fun c27 => ?_)
  · replace hm := in_e hm c27
    obtain ⟨y28, hy28⟩ : ∃ z : Int32, z = (x7) + Int32.ofInt 1 := ⟨_, rfl⟩
    replace hm := ltb_e hm hy28
    refine zx_iinc C [(7, .int (y28)), (0, .ref (x0)), (1, .int (x1)), (2, .ref (x2)), (3, .int (x3)), (4, .int (x4)), (5, .int (x5)), (6, .int (x6)), (9, .int (x9))] dX8_find_162 7 rfl hy28.symm (by decide) rfl ?_
    refine zx_goto C 41 dX8_find_165 (by decide) ?_
    exact zx_lv [1, 2, 3, 4, 5, 6, 7, 0] [(0, .ref (x0)), (1, .int (x1)), (2, .ref (x2)), (3, .int (x3)), (4, .int (x4)), (5, .int (x5)), (6, .int (x6)), (7, .int (y28))] rfl (hrc41 _ _ _ _ _ _ _ _ _ hm)
  · replace hm := ip_e hm c27
    refine zx_iload C dX8_find_159 7 rfl ?_
    obtain ⟨rfl, rfl⟩ := ret_e hm
    exact zx_iret C rfl rfl rfl dX8_find_161
set_option maxRecDepth 100000 in
set_option maxHeartbeats 1000000 in
theorem j_X8_find_147 {p : Program} {l : Launch} {e : Env} {s : State} {m : MethodId} {args : Array Value} {below : List Frame} {meth : Method} {c : Code} {D : va_G} {aC : Nat → ClassId} {b0 fu : Nat} {σ0 τ : tM} {v : Int32} {rc41 : Nat → Int32 → Nat → Int32 → Int32 → Int32 → Int32 → Int32 → tM → Option ((Int32) × tM)} {rc104 : Nat → Int32 → Nat → Int32 → Int32 → Int32 → Int32 → Int32 → Int32 → Int32 → tM → Option ((Int32) × tM)} (C : tCx p l s m args meth c yX8_find.cls cX8_find 10 (some .int) D aC b0 σ0) (htab : ∀ x ∈ c.exceptionTable.toList, False) (hin : meth.name = yX8_find.name) (hrc41 : ∀ (x0 : Nat) (x1 : Int32) (x2 : Nat) (x3 : Int32) (x4 : Int32) (x5 : Int32) (x6 : Int32) (x7 : Int32) (ρ : tM), rc41 x0 x1 x2 x3 x4 x5 x6 x7 ρ = some (v, τ) → tX p l e s m args below meth c 10 2 47 D aC b0 σ0 (.inl (some (.int v))) τ 41 [(0, .ref (x0)), (1, .int (x1)), (2, .ref (x2)), (3, .int (x3)), (4, .int (x4)), (5, .int (x5)), (6, .int (x6)), (7, .int (x7))] [] ρ) (hrc104 : ∀ (x0 : Nat) (x1 : Int32) (x2 : Nat) (x3 : Int32) (x4 : Int32) (x5 : Int32) (x6 : Int32) (x7 : Int32) (x8 : Int32) (x9 : Int32) (ρ : tM), rc104 x0 x1 x2 x3 x4 x5 x6 x7 x8 x9 ρ = some (v, τ) → tX p l e s m args below meth c 10 2 47 D aC b0 σ0 (.inl (some (.int v))) τ 104 [(0, .ref (x0)), (1, .int (x1)), (2, .ref (x2)), (3, .int (x3)), (4, .int (x4)), (5, .int (x5)), (6, .int (x6)), (7, .int (x7)), (8, .int (x8)), (9, .int (x9))] [] ρ) {x0 : Nat} {x1 : Int32} {x2 : Nat} {x3 : Int32} {x4 : Int32} {x5 : Int32} {x6 : Int32} {x7 : Int32} {x8 : Int32} {s0 : Int32} {σ : tM} (hm : J_X8_find_147 b0 fu rc41 rc104 x0 x1 x2 x3 x4 x5 x6 x7 x8 s0 σ = some (v, τ)) : tX p l e s m args below meth c 10 2 47 D aC b0 σ0 (.inl (some (.int v))) τ 147 [(0, .ref (x0)), (1, .int (x1)), (2, .ref (x2)), (3, .int (x3)), (4, .int (x4)), (5, .int (x5)), (6, .int (x6)), (7, .int (x7)), (8, .int (x8))] [.int (s0)] σ := by
  unfold J_X8_find_147 at hm
  refine zx_istore C [(9, .int (s0)), (0, .ref (x0)), (1, .int (x1)), (2, .ref (x2)), (3, .int (x3)), (4, .int (x4)), (5, .int (x5)), (6, .int (x6)), (7, .int (x7)), (8, .int (x8))] dX8_find_147 (by decide) rfl ?_
  refine zx_goto C 104 dX8_find_149 (by decide) ?_
  exact zx_lv [1, 2, 3, 4, 5, 6, 7, 8, 9, 0] [(0, .ref (x0)), (1, .int (x1)), (2, .ref (x2)), (3, .int (x3)), (4, .int (x4)), (5, .int (x5)), (6, .int (x6)), (7, .int (x7)), (8, .int (x8)), (9, .int (s0))] rfl (hrc104 _ _ _ _ _ _ _ _ _ _ _ hm)
set_option maxRecDepth 100000 in
set_option maxHeartbeats 1000000 in
theorem l_X8_find_104 {p : Program} {l : Launch} {e : Env} {s : State} {m : MethodId} {args : Array Value} {below : List Frame} {meth : Method} {c : Code} {D : va_G} {aC : Nat → ClassId} {b0 fu : Nat} {σ0 τ : tM} {v : Int32} {rc41 : Nat → Int32 → Nat → Int32 → Int32 → Int32 → Int32 → Int32 → tM → Option ((Int32) × tM)} (C : tCx p l s m args meth c yX8_find.cls cX8_find 10 (some .int) D aC b0 σ0) (htab : ∀ x ∈ c.exceptionTable.toList, False) (hin : meth.name = yX8_find.name) (hrc41 : ∀ (x0 : Nat) (x1 : Int32) (x2 : Nat) (x3 : Int32) (x4 : Int32) (x5 : Int32) (x6 : Int32) (x7 : Int32) (ρ : tM), rc41 x0 x1 x2 x3 x4 x5 x6 x7 ρ = some (v, τ) → tX p l e s m args below meth c 10 2 47 D aC b0 σ0 (.inl (some (.int v))) τ 41 [(0, .ref (x0)), (1, .int (x1)), (2, .ref (x2)), (3, .int (x3)), (4, .int (x4)), (5, .int (x5)), (6, .int (x6)), (7, .int (x7))] [] ρ) : ∀ (n : Nat) (x0 : Nat) (x1 : Int32) (x2 : Nat) (x3 : Int32) (x4 : Int32) (x5 : Int32) (x6 : Int32) (x7 : Int32) (x8 : Int32) (x9 : Int32) (σ : tM), L_X8_find_104 b0 fu rc41 n x0 x1 x2 x3 x4 x5 x6 x7 x8 x9 σ = some (v, τ) → tX p l e s m args below meth c 10 2 47 D aC b0 σ0 (.inl (some (.int v))) τ 104 [(0, .ref (x0)), (1, .int (x1)), (2, .ref (x2)), (3, .int (x3)), (4, .int (x4)), (5, .int (x5)), (6, .int (x6)), (7, .int (x7)), (8, .int (x8)), (9, .int (x9))] [] σ := by
  intro n
  induction n with
  | zero => intro x0 x1 x2 x3 x4 x5 x6 x7 x8 x9 σ hm; unfold L_X8_find_104 at hm; cases hm
  | succ n ih =>
    intro x0 x1 x2 x3 x4 x5 x6 x7 x8 x9 σ hm
    unfold L_X8_find_104 at hm
    obtain ⟨rc104, hrc⟩ : ∃ z, z = L_X8_find_104 b0 fu rc41 n := ⟨_, rfl⟩
    replace hm := ltb_e hm hrc
    rw [← hrc] at ih
    have hrc104 := ih
    clear ih hrc
    refine zx_iload C dX8_find_104 9 rfl ?_
    refine zx_if_lt C 152 dX8_find_106 (by decide) (fun c26 => ?_) (fun c26 => ?_)
    · replace hm := ip_e hm c26
      exact zx_lv [0, 1, 2, 3, 4, 5, 6, 7, 9] [(0, .ref (x0)), (1, .int (x1)), (2, .ref (x2)), (3, .int (x3)), (4, .int (x4)), (5, .int (x5)), (6, .int (x6)), (7, .int (x7)), (9, .int (x9))] rfl (j_X8_find_152 C htab hin hrc41   hm)
    · replace hm := in_e hm c26
      refine zx_iload C dX8_find_109 9 rfl ?_
      refine zx_iload C dX8_find_111 4 rfl ?_
      refine zx_icmp_ge C 152 dX8_find_113 (by decide) (fun c29 => ?_) (fun c29 => ?_)
      · replace hm := ip_e hm c29
        exact zx_lv [0, 1, 2, 3, 4, 5, 6, 7, 9] [(0, .ref (x0)), (1, .int (x1)), (2, .ref (x2)), (3, .int (x3)), (4, .int (x4)), (5, .int (x5)), (6, .int (x6)), (7, .int (x7)), (9, .int (x9))] rfl (j_X8_find_152 C htab hin hrc41   hm)
      · replace hm := in_e hm c29
        refine zx_aload_n C dX8_find_116 0 rfl ?_
        obtain ⟨k30, i31, hm⟩ := ckO_e hm
        obtain ⟨a32, h33, hm⟩ := osm_e hm
        refine zx_get (j := 0) C tC_8 k30 i31 ⟨by decide, Or.inl W_1_163⟩ dX8_find_117 (.ref a32) (rf_s h33) ?_
        refine zx_iload C dX8_find_120 6 rfl ?_
        refine zx_iload C dX8_find_122 8 rfl ?_
        refine zx_iload C dX8_find_124 9 rfl ?_
        refine zx_iadd C dX8_find_126 ?_
        obtain ⟨k34, i35, hm⟩ := ckO_e hm
        obtain ⟨v36, ρ37, h38, hm⟩ := cll_e hm
        refine zx_callV (σ := σ) C [.int (x6), .int ((x8) + (x9))] tC_5 k34 i35 Y_X5_octet W_4_120 W_4_121 W_4_122 (c_X5_octet h38) (by decide) (by decide) rfl (Nat.le_of_ble_eq_true rfl) dX8_find_127 rfl ?_
        refine zx_aload_n C dX8_find_130 2 rfl ?_
        refine zx_iload_n C dX8_find_131 3 rfl ?_
        refine zx_iload C dX8_find_132 9 rfl ?_
        refine zx_iadd C dX8_find_134 ?_
        obtain ⟨n41, k39, i40, hm⟩ := ckR_e hm
        obtain ⟨h42, hm⟩ := ckI_e hm
        refine zx_bald C k39 i40 h42 dX8_find_135 ?_
        refine zx_icmp_ne C 146 dX8_find_136 (by decide) (fun c43 => ?_) (fun c43 => ?_)
        · replace hm := in_e hm c43
          refine zx_iconst (v := (-1)) C dX8_find_146 (by decide) ?_
          exact zx_lv [0, 1, 2, 3, 4, 5, 6, 7, 8] [(0, .ref (x0)), (1, .int (x1)), (2, .ref (x2)), (3, .int (x3)), (4, .int (x4)), (5, .int (x5)), (6, .int (x6)), (7, .int (x7)), (8, .int (x8))] rfl (j_X8_find_147 C htab hin hrc41 hrc104   hm)
        · replace hm := ip_e hm c43
          refine zx_iload C dX8_find_139 9 rfl ?_
          refine zx_iconst (v := 1) C dX8_find_141 (by decide) ?_
          refine zx_iadd C dX8_find_142 ?_
          refine zx_goto C 147 dX8_find_143 (by decide) ?_
          exact zx_lv [0, 1, 2, 3, 4, 5, 6, 7, 8] [(0, .ref (x0)), (1, .int (x1)), (2, .ref (x2)), (3, .int (x3)), (4, .int (x4)), (5, .int (x5)), (6, .int (x6)), (7, .int (x7)), (8, .int (x8))] rfl (j_X8_find_147 C htab hin hrc41 hrc104   hm)
set_option maxRecDepth 100000 in
set_option maxHeartbeats 1000000 in
theorem j_X8_find_102 {p : Program} {l : Launch} {e : Env} {s : State} {m : MethodId} {args : Array Value} {below : List Frame} {meth : Method} {c : Code} {D : va_G} {aC : Nat → ClassId} {b0 fu : Nat} {σ0 τ : tM} {v : Int32} {rc41 : Nat → Int32 → Nat → Int32 → Int32 → Int32 → Int32 → Int32 → tM → Option ((Int32) × tM)} (C : tCx p l s m args meth c yX8_find.cls cX8_find 10 (some .int) D aC b0 σ0) (htab : ∀ x ∈ c.exceptionTable.toList, False) (hin : meth.name = yX8_find.name) (hrc41 : ∀ (x0 : Nat) (x1 : Int32) (x2 : Nat) (x3 : Int32) (x4 : Int32) (x5 : Int32) (x6 : Int32) (x7 : Int32) (ρ : tM), rc41 x0 x1 x2 x3 x4 x5 x6 x7 ρ = some (v, τ) → tX p l e s m args below meth c 10 2 47 D aC b0 σ0 (.inl (some (.int v))) τ 41 [(0, .ref (x0)), (1, .int (x1)), (2, .ref (x2)), (3, .int (x3)), (4, .int (x4)), (5, .int (x5)), (6, .int (x6)), (7, .int (x7))] [] ρ) {x0 : Nat} {x1 : Int32} {x2 : Nat} {x3 : Int32} {x4 : Int32} {x5 : Int32} {x6 : Int32} {x7 : Int32} {x8 : Int32} {s0 : Int32} {σ : tM} (hm : J_X8_find_102 b0 fu rc41 x0 x1 x2 x3 x4 x5 x6 x7 x8 s0 σ = some (v, τ)) : tX p l e s m args below meth c 10 2 47 D aC b0 σ0 (.inl (some (.int v))) τ 102 [(0, .ref (x0)), (1, .int (x1)), (2, .ref (x2)), (3, .int (x3)), (4, .int (x4)), (5, .int (x5)), (6, .int (x6)), (7, .int (x7)), (8, .int (x8))] [.int (s0)] σ := by
  unfold J_X8_find_102 at hm
  refine zx_istore C [(9, .int (s0)), (0, .ref (x0)), (1, .int (x1)), (2, .ref (x2)), (3, .int (x3)), (4, .int (x4)), (5, .int (x5)), (6, .int (x6)), (7, .int (x7)), (8, .int (x8))] dX8_find_102 (by decide) rfl ?_
  exact zx_lv [1, 2, 3, 4, 5, 6, 7, 8, 9, 0] [(0, .ref (x0)), (1, .int (x1)), (2, .ref (x2)), (3, .int (x3)), (4, .int (x4)), (5, .int (x5)), (6, .int (x6)), (7, .int (x7)), (8, .int (x8)), (9, .int (s0))] rfl (l_X8_find_104 C htab hin hrc41 _ _ _ _ _ _ _ _ _ _ _ _ hm)
set_option maxRecDepth 100000 in
set_option maxHeartbeats 1000000 in
theorem j_X8_find_78 {p : Program} {l : Launch} {e : Env} {s : State} {m : MethodId} {args : Array Value} {below : List Frame} {meth : Method} {c : Code} {D : va_G} {aC : Nat → ClassId} {b0 fu : Nat} {σ0 τ : tM} {v : Int32} {rc41 : Nat → Int32 → Nat → Int32 → Int32 → Int32 → Int32 → Int32 → tM → Option ((Int32) × tM)} (C : tCx p l s m args meth c yX8_find.cls cX8_find 10 (some .int) D aC b0 σ0) (htab : ∀ x ∈ c.exceptionTable.toList, False) (hin : meth.name = yX8_find.name) (hrc41 : ∀ (x0 : Nat) (x1 : Int32) (x2 : Nat) (x3 : Int32) (x4 : Int32) (x5 : Int32) (x6 : Int32) (x7 : Int32) (ρ : tM), rc41 x0 x1 x2 x3 x4 x5 x6 x7 ρ = some (v, τ) → tX p l e s m args below meth c 10 2 47 D aC b0 σ0 (.inl (some (.int v))) τ 41 [(0, .ref (x0)), (1, .int (x1)), (2, .ref (x2)), (3, .int (x3)), (4, .int (x4)), (5, .int (x5)), (6, .int (x6)), (7, .int (x7))] [] ρ) {x0 : Nat} {x1 : Int32} {x2 : Nat} {x3 : Int32} {x4 : Int32} {x5 : Int32} {x6 : Int32} {x7 : Int32} {x8 : Int32} {σ : tM} (hm : J_X8_find_78 b0 fu rc41 x0 x1 x2 x3 x4 x5 x6 x7 x8 σ = some (v, τ)) : tX p l e s m args below meth c 10 2 47 D aC b0 σ0 (.inl (some (.int v))) τ 78 [(0, .ref (x0)), (1, .int (x1)), (2, .ref (x2)), (3, .int (x3)), (4, .int (x4)), (5, .int (x5)), (6, .int (x6)), (7, .int (x7)), (8, .int (x8))] [] σ := by
  unfold J_X8_find_78 at hm
  refine zx_aload_n C dX8_find_78 0 rfl ?_
  obtain ⟨k16, i17, hm⟩ := ckO_e hm
  obtain ⟨a18, h19, hm⟩ := osm_e hm
  refine zx_get (j := 0) C tC_8 k16 i17 ⟨by decide, Or.inl W_1_163⟩ dX8_find_79 (.ref a18) (rf_s h19) ?_
  refine zx_iload C dX8_find_82 6 rfl ?_
  refine zx_iload C dX8_find_84 8 rfl ?_
  refine zx_bipush (v := 28) C dX8_find_86 (by decide) ?_
  refine zx_iadd C dX8_find_88 ?_
  obtain ⟨k20, i21, hm⟩ := ckO_e hm
  obtain ⟨v22, ρ23, h24, hm⟩ := cll_e hm
  refine zx_callV (σ := σ) C [.int (x6), .int ((x8) + (28))] tC_5 k20 i21 Y_X5_octet W_4_120 W_4_121 W_4_122 (c_X5_octet h24) (by decide) (by decide) rfl (Nat.le_of_ble_eq_true rfl) dX8_find_89 rfl ?_
  refine zx_iload C dX8_find_92 4 rfl ?_
  refine zx_icmp_ne C 101 dX8_find_94 (by decide) (fun c25 => ?_) (fun c25 => ?_)
  · replace hm := in_e hm c25
    refine zx_iconst (v := (-1)) C dX8_find_101 (by decide) ?_
    exact zx_lv [0, 1, 2, 3, 4, 5, 6, 7, 8] [(0, .ref (x0)), (1, .int (x1)), (2, .ref (x2)), (3, .int (x3)), (4, .int (x4)), (5, .int (x5)), (6, .int (x6)), (7, .int (x7)), (8, .int (x8))] rfl (j_X8_find_102 C htab hin hrc41   hm)
  · replace hm := ip_e hm c25
    refine zx_iconst (v := 0) C dX8_find_97 (by decide) ?_
    refine zx_goto C 102 dX8_find_98 (by decide) ?_
    exact zx_lv [0, 1, 2, 3, 4, 5, 6, 7, 8] [(0, .ref (x0)), (1, .int (x1)), (2, .ref (x2)), (3, .int (x3)), (4, .int (x4)), (5, .int (x5)), (6, .int (x6)), (7, .int (x7)), (8, .int (x8))] rfl (j_X8_find_102 C htab hin hrc41   hm)
set_option maxRecDepth 100000 in
set_option maxHeartbeats 1000000 in
theorem l_X8_find_41 {p : Program} {l : Launch} {e : Env} {s : State} {m : MethodId} {args : Array Value} {below : List Frame} {meth : Method} {c : Code} {D : va_G} {aC : Nat → ClassId} {b0 fu : Nat} {σ0 τ : tM} {v : Int32}  (C : tCx p l s m args meth c yX8_find.cls cX8_find 10 (some .int) D aC b0 σ0) (htab : ∀ x ∈ c.exceptionTable.toList, False) (hin : meth.name = yX8_find.name)  : ∀ (n : Nat) (x0 : Nat) (x1 : Int32) (x2 : Nat) (x3 : Int32) (x4 : Int32) (x5 : Int32) (x6 : Int32) (x7 : Int32) (σ : tM), L_X8_find_41 b0 fu  n x0 x1 x2 x3 x4 x5 x6 x7 σ = some (v, τ) → tX p l e s m args below meth c 10 2 47 D aC b0 σ0 (.inl (some (.int v))) τ 41 [(0, .ref (x0)), (1, .int (x1)), (2, .ref (x2)), (3, .int (x3)), (4, .int (x4)), (5, .int (x5)), (6, .int (x6)), (7, .int (x7))] [] σ := by
  intro n
  induction n with
  | zero => intro x0 x1 x2 x3 x4 x5 x6 x7 σ hm; unfold L_X8_find_41 at hm; cases hm
  | succ n ih =>
    intro x0 x1 x2 x3 x4 x5 x6 x7 σ hm
    unfold L_X8_find_41 at hm
    obtain ⟨rc41, hrc⟩ : ∃ z, z = L_X8_find_41 b0 fu  n := ⟨_, rfl⟩
    replace hm := ltb_e hm hrc
    rw [← hrc] at ih
    have hrc41 := ih
    clear ih hrc
    refine zx_iload C dX8_find_41 7 rfl ?_
    refine zx_iload C dX8_find_43 5 rfl ?_
    refine zx_icmp_ge C 168 dX8_find_45 (by decide) (fun c13 => ?_) (fun c13 => ?_)
    · replace hm := ip_e hm c13
      refine zx_iconst (v := (-1)) C dX8_find_168 (by decide) ?_
      obtain ⟨rfl, rfl⟩ := ret_e hm
      exact zx_iret C rfl rfl rfl dX8_find_169
    · replace hm := in_e hm c13
      refine zx_iload C dX8_find_48 7 rfl ?_
      refine zx_bipush (v := 8) C dX8_find_50 (by decide) ?_
      refine zx_irem C dX8_find_52 (by decide) ?_
      refine zx_bipush (v := 32) C dX8_find_53 (by decide) ?_
      refine zx_imul C dX8_find_55 ?_
      refine zx_topi (fun y14 hy14 => ?_)
      replace hm := ltb_e hm hy14
      refine zx_istore C [(8, .int (y14)), (0, .ref (x0)), (1, .int (x1)), (2, .ref (x2)), (3, .int (x3)), (4, .int (x4)), (5, .int (x5)), (6, .int (x6)), (7, .int (x7))] dX8_find_56 (by decide) rfl ?_
      refine zx_iload C dX8_find_58 0 rfl ?_
      refine zx_if_ne C 78 dX8_find_60 (by decide) (fun c15 => ?_) (fun c15 => ?_)
      · replace hm := in_e hm c15
        exact zx_lv [1, 2, 3, 4, 5, 6, 7, 8, 0] [(0, .ref (x0)), (1, .int (x1)), (2, .ref (x2)), (3, .int (x3)), (4, .int (x4)), (5, .int (x5)), (6, .int (x6)), (7, .int (x7)), (8, .int (y14))] rfl (j_X8_find_78 C htab hin hrc41   hm)
      · replace hm := ip_e hm c15
        refine zx_aload_n C dX8_find_63 1 rfl ?_
        refine zx_iload_n C dX8_find_64 2 rfl ?_
        refine zx_iload C dX8_find_65 8 rfl ?_
        refine zx_bipush (v := 8) C dX8_find_67 (by decide) ?_
        refine zx_idiv C dX8_find_69 (by decide) ?_
        obtain ⟨k44, i45, hm⟩ := ckO_e hm
        obtain ⟨v46, ρ47, h48, hm⟩ := cll_e hm
        refine zx_callV (σ := σ) C [.int (x1), .int ((x7) / (8))] tC_8 k44 i45 Y_X8_pointer W_4_109 W_4_110 W_4_111 (c_X8_pointer h48) (by decide) (by decide) rfl (Nat.le_of_ble_eq_true rfl) dX8_find_70 rfl ?_
        obtain ⟨v49, ρ50, h51, hm⟩ := cll_e hm
        refine zx_callS (σ := ρ47) C [.long (v46)] Y_X8_cellOf W_4_117 W_4_118 (c_X8_cellOf h51) (by decide) (by decide) rfl (Nat.le_of_ble_eq_true rfl) dX8_find_73 rfl ?_
        refine zx_istore C [(6, .int (v49)), (8, .int (y14)), (0, .ref (x0)), (1, .int (x1)), (2, .ref (x2)), (3, .int (x3)), (4, .int (x4)), (5, .int (x5)), (7, .int (x7))] dX8_find_76 (by decide) rfl ?_
        exact zx_lv [2, 3, 4, 5, 6, 7, 0, 8, 1] [(0, .ref (x0)), (1, .int (x1)), (2, .ref (x2)), (3, .int (x3)), (4, .int (x4)), (5, .int (x5)), (6, .int (v49)), (7, .int (x7)), (8, .int (y14))] rfl (j_X8_find_78 C htab hin hrc41   hm)
set_option maxRecDepth 100000 in
set_option maxHeartbeats 1000000 in
theorem c_X8_find {l : Launch} {D : va_G} {aC : Nat → ClassId} {b0 fu : Nat} {a0 : Nat} {p0 : Int32} {p1 : Nat} {p2 : Int32} {p3 : Int32} {σ τ : tM} {v : Int32} (hm : m_X8_find b0 fu a0 p0 p1 p2 p3 σ = some (v, τ)) : tMt l D aC b0 yX8_find (Cond.code yX8_find cX8_find 10 (some .int)) 2 47 [.ref (a0), .int (p0), .ref (p1), .int (p2), .int (p3)] σ (.inl (some (.int v))) τ := by
  unfold m_X8_find at hm
  obtain ⟨hg, hm⟩ := grw_e hm
  refine tMt_of (n := 0) rfl (Nat.le_of_ble_eq_true rfl) hg ?_
  intro p e s m below meth c C htab hin
  refine zx_lv [0, 1, 2, 3, 4] [(0, .ref (a0)), (1, .int (p0)), (2, .ref (p1)), (3, .int (p2)), (4, .int (p3))] rfl ?_
  refine zx_iload C dX8_find_0 4 rfl ?_
  refine zx_iconst (v := 1) C dX8_find_2 (by decide) ?_
  refine zx_icmp_lt C 26 dX8_find_3 (by decide) (fun c1 => ?_) (fun c1 => ?_)
  · replace hm := ip_e hm c1
    exact zx_lv [] [] rfl (j_X8_find_26 C htab hin    hm)
  · replace hm := in_e hm c1
    refine zx_iload C dX8_find_6 4 rfl ?_
    refine zx_bipush (v := 28) C dX8_find_8 (by decide) ?_
    refine zx_icmp_gt C 26 dX8_find_10 (by decide) (fun c2 => ?_) (fun c2 => ?_)
    · replace hm := ip_e hm c2
      exact zx_lv [] [] rfl (j_X8_find_26 C htab hin    hm)
    · replace hm := in_e hm c2
      refine zx_iload_n C dX8_find_13 3 rfl ?_
      refine zx_if_lt C 26 dX8_find_14 (by decide) (fun c3 => ?_) (fun c3 => ?_)
      · replace hm := ip_e hm c3
        exact zx_lv [] [] rfl (j_X8_find_26 C htab hin    hm)
      · replace hm := in_e hm c3
        refine zx_iload_n C dX8_find_17 3 rfl ?_
        refine zx_aload_n C dX8_find_18 2 rfl ?_
        obtain ⟨n6, k4, i5, hm⟩ := ckR_e hm
        refine zx_alen C k4 (by decide) i5 dX8_find_19 ?_
        refine zx_iload C dX8_find_20 4 rfl ?_
        refine zx_isub C dX8_find_22 ?_
        refine zx_icmp_le C 28 dX8_find_23 (by decide) (fun c7 => ?_) (fun c7 => ?_)
        · replace hm := ip_e hm c7
          refine zx_aload_n C dX8_find_28 0 rfl ?_
          refine zx_iload_n C dX8_find_29 1 rfl ?_
          obtain ⟨k8, i9, hm⟩ := ckO_e hm
          obtain ⟨v10, ρ11, h12, hm⟩ := cll_e hm
          refine zx_callV (σ := σ) C [.int (p0)] tC_8 k8 i9 Y_X8_entries W_4_104 W_4_105 W_4_106 (c_X8_entries h12) (by decide) (by decide) rfl (Nat.le_of_ble_eq_true rfl) dX8_find_30 rfl ?_
          refine zx_istore C [(5, .int (v10)), (0, .ref (a0)), (1, .int (p0)), (2, .ref (p1)), (3, .int (p2)), (4, .int (p3))] dX8_find_33 (by decide) rfl ?_
          refine zx_iconst (v := 0) C dX8_find_35 (by decide) ?_
          refine zx_istore C [(6, .int (0)), (5, .int (v10)), (0, .ref (a0)), (1, .int (p0)), (2, .ref (p1)), (3, .int (p2)), (4, .int (p3))] dX8_find_36 (by decide) rfl ?_
          refine zx_iconst (v := 0) C dX8_find_38 (by decide) ?_
          refine zx_istore C [(7, .int (0)), (6, .int (0)), (5, .int (v10)), (0, .ref (a0)), (1, .int (p0)), (2, .ref (p1)), (3, .int (p2)), (4, .int (p3))] dX8_find_39 (by decide) rfl ?_
          exact zx_lv [3, 4, 5, 6, 7, 2, 1, 0] [(0, .ref (a0)), (1, .int (p0)), (2, .ref (p1)), (3, .int (p2)), (4, .int (p3)), (5, .int (v10)), (6, .int (0)), (7, .int (0))] rfl (l_X8_find_41 C htab hin  _ _ _ _ _ _ _ _ _ _ hm)
        · replace hm := in_e hm c7
          exact zx_lv [] [] rfl (j_X8_find_26 C htab hin    hm)
abbrev cX8_placeForEntry : ByteArray := prog_10_method_48_code
def yX8_placeForEntry : MethodName := ⟨"SyncTree$Tree", "placeForEntry", "(I)I"⟩
theorem Y_X8_placeForEntry : tY yX8_placeForEntry cX8_placeForEntry 4 (some .int) 1 := ⟨W_4_165, W_1_4, ⟨by decide +kernel, by decide +kernel⟩, by decide +kernel⟩
theorem dX8_placeForEntry_0 : decode cX8_placeForEntry 0 = .ok (.aload_n 0, 1) := by decide +kernel
theorem dX8_placeForEntry_1 : decode cX8_placeForEntry 1 = .ok (.iload_n 1, 1) := by decide +kernel
theorem dX8_placeForEntry_2 : decode cX8_placeForEntry 2 = .ok (.invokevirtual 169, 3) := by decide +kernel
theorem dX8_placeForEntry_5 : decode cX8_placeForEntry 5 = .ok (.istore_n 2, 1) := by decide +kernel
theorem dX8_placeForEntry_6 : decode cX8_placeForEntry 6 = .ok (.iconst 0, 1) := by decide +kernel
theorem dX8_placeForEntry_7 : decode cX8_placeForEntry 7 = .ok (.istore_n 3, 1) := by decide +kernel
theorem dX8_placeForEntry_8 : decode cX8_placeForEntry 8 = .ok (.iload_n 3, 1) := by decide +kernel
theorem dX8_placeForEntry_9 : decode cX8_placeForEntry 9 = .ok (.iload_n 2, 1) := by decide +kernel
theorem dX8_placeForEntry_10 : decode cX8_placeForEntry 10 = .ok (.if_icmp .ge 20, 3) := by decide +kernel
theorem dX8_placeForEntry_13 : decode cX8_placeForEntry 13 = .ok (.aload_n 0, 1) := by decide +kernel
theorem dX8_placeForEntry_14 : decode cX8_placeForEntry 14 = .ok (.iload_n 1, 1) := by decide +kernel
theorem dX8_placeForEntry_15 : decode cX8_placeForEntry 15 = .ok (.iload_n 3, 1) := by decide +kernel
theorem dX8_placeForEntry_16 : decode cX8_placeForEntry 16 = .ok (.invokevirtual 172, 3) := by decide +kernel
theorem dX8_placeForEntry_19 : decode cX8_placeForEntry 19 = .ok (.ifCond .ne 5, 3) := by decide +kernel
theorem dX8_placeForEntry_22 : decode cX8_placeForEntry 22 = .ok (.iload_n 3, 1) := by decide +kernel
theorem dX8_placeForEntry_23 : decode cX8_placeForEntry 23 = .ok (.ireturn, 1) := by decide +kernel
theorem dX8_placeForEntry_24 : decode cX8_placeForEntry 24 = .ok (.iinc 3 1, 3) := by decide +kernel
theorem dX8_placeForEntry_27 : decode cX8_placeForEntry 27 = .ok (.goto (-19), 3) := by decide +kernel
theorem dX8_placeForEntry_30 : decode cX8_placeForEntry 30 = .ok (.iload_n 2, 1) := by decide +kernel
theorem dX8_placeForEntry_31 : decode cX8_placeForEntry 31 = .ok (.ireturn, 1) := by decide +kernel
def L_X8_placeForEntry_8 (b0 fu : Nat)  : Nat → Nat → Int32 → Int32 → Int32 → tM → Option ((Int32) × tM)
  | 0, _, _, _, _, _ => none
  | n + 1, x0, x1, x2, x3, σ => ltb (L_X8_placeForEntry_8 b0 fu  n) (fun rc8 => if (x2) ≤ (x3) then some (x2, σ) else ckO b0 (σ) (x0) 8 (cll (m_X8_nameLength b0 fu (x0) (x1) (x3) (σ)) (fun v9 ρ10 => if (v9) = (0) then some (x3, ρ10) else ltb ((x3) + Int32.ofInt 1) (fun y13 => rc8 (x0) (x1) (x2) (y13) (ρ10)))))
def m_X8_placeForEntry (b0 fu : Nat) (a0 : Nat) (p0 : Int32) (σ : tM) : Option ((Int32) × tM) := grw σ (ckO b0 (σ) (a0) 8 (cll (m_X8_entries b0 fu (a0) (p0) (σ)) (fun v3 ρ4 => L_X8_placeForEntry_8 b0 fu  (fu) (a0) (p0) (v3) (0) (ρ4))))
set_option maxRecDepth 100000 in
set_option maxHeartbeats 1000000 in
theorem l_X8_placeForEntry_8 {p : Program} {l : Launch} {e : Env} {s : State} {m : MethodId} {args : Array Value} {below : List Frame} {meth : Method} {c : Code} {D : va_G} {aC : Nat → ClassId} {b0 fu : Nat} {σ0 τ : tM} {v : Int32}  (C : tCx p l s m args meth c yX8_placeForEntry.cls cX8_placeForEntry 4 (some .int) D aC b0 σ0) (htab : ∀ x ∈ c.exceptionTable.toList, False) (hin : meth.name = yX8_placeForEntry.name)  : ∀ (n : Nat) (x0 : Nat) (x1 : Int32) (x2 : Int32) (x3 : Int32) (σ : tM), L_X8_placeForEntry_8 b0 fu  n x0 x1 x2 x3 σ = some (v, τ) → tX p l e s m args below meth c 4 3 69 D aC b0 σ0 (.inl (some (.int v))) τ 8 [(0, .ref (x0)), (1, .int (x1)), (2, .int (x2)), (3, .int (x3))] [] σ := by
  intro n
  induction n with
  | zero => intro x0 x1 x2 x3 σ hm; unfold L_X8_placeForEntry_8 at hm; cases hm
  | succ n ih =>
    intro x0 x1 x2 x3 σ hm
    unfold L_X8_placeForEntry_8 at hm
    obtain ⟨rc8, hrc⟩ : ∃ z, z = L_X8_placeForEntry_8 b0 fu  n := ⟨_, rfl⟩
    replace hm := ltb_e hm hrc
    rw [← hrc] at ih
    have hrc8 := ih
    clear ih hrc
    refine zx_iload_n C dX8_placeForEntry_8 3 rfl ?_
    refine zx_iload_n C dX8_placeForEntry_9 2 rfl ?_
    refine zx_icmp_ge C 30 dX8_placeForEntry_10 (by decide) (fun c6 => ?_) (fun c6 => ?_)
    · replace hm := ip_e hm c6
      refine zx_iload_n C dX8_placeForEntry_30 2 rfl ?_
      obtain ⟨rfl, rfl⟩ := ret_e hm
      exact zx_iret C rfl rfl rfl dX8_placeForEntry_31
    · replace hm := in_e hm c6
      refine zx_aload_n C dX8_placeForEntry_13 0 rfl ?_
      refine zx_iload_n C dX8_placeForEntry_14 1 rfl ?_
      refine zx_iload_n C dX8_placeForEntry_15 3 rfl ?_
      obtain ⟨k7, i8, hm⟩ := ckO_e hm
      obtain ⟨v9, ρ10, h11, hm⟩ := cll_e hm
      refine zx_callV (σ := σ) C [.int (x1), .int (x3)] tC_8 k7 i8 Y_X8_nameLength W_4_166 W_4_167 W_4_168 (c_X8_nameLength h11) (by decide) (by decide) rfl (Nat.le_of_ble_eq_true rfl) dX8_placeForEntry_16 rfl ?_
      refine zx_if_ne C 24 dX8_placeForEntry_19 (by decide) (fun c12 => ?_) (fun c12 => ?_)
      · replace hm := in_e hm c12
        obtain ⟨y13, hy13⟩ : ∃ z : Int32, z = (x3) + Int32.ofInt 1 := ⟨_, rfl⟩
        replace hm := ltb_e hm hy13
        refine zx_iinc C [(3, .int (y13)), (0, .ref (x0)), (1, .int (x1)), (2, .int (x2))] dX8_placeForEntry_24 3 rfl hy13.symm (by decide) rfl ?_
        refine zx_goto C 8 dX8_placeForEntry_27 (by decide) ?_
        exact zx_lv [1, 2, 3, 0] [(0, .ref (x0)), (1, .int (x1)), (2, .int (x2)), (3, .int (y13))] rfl (hrc8 _ _ _ _ _ hm)
      · replace hm := ip_e hm c12
        refine zx_iload_n C dX8_placeForEntry_22 3 rfl ?_
        obtain ⟨rfl, rfl⟩ := ret_e hm
        exact zx_iret C rfl rfl rfl dX8_placeForEntry_23
set_option maxRecDepth 100000 in
set_option maxHeartbeats 1000000 in
theorem c_X8_placeForEntry {l : Launch} {D : va_G} {aC : Nat → ClassId} {b0 fu : Nat} {a0 : Nat} {p0 : Int32} {σ τ : tM} {v : Int32} (hm : m_X8_placeForEntry b0 fu a0 p0 σ = some (v, τ)) : tMt l D aC b0 yX8_placeForEntry (Cond.code yX8_placeForEntry cX8_placeForEntry 4 (some .int)) 3 69 [.ref (a0), .int (p0)] σ (.inl (some (.int v))) τ := by
  unfold m_X8_placeForEntry at hm
  obtain ⟨hg, hm⟩ := grw_e hm
  refine tMt_of (n := 0) rfl (Nat.le_of_ble_eq_true rfl) hg ?_
  intro p e s m below meth c C htab hin
  refine zx_lv [0, 1] [(0, .ref (a0)), (1, .int (p0))] rfl ?_
  refine zx_aload_n C dX8_placeForEntry_0 0 rfl ?_
  refine zx_iload_n C dX8_placeForEntry_1 1 rfl ?_
  obtain ⟨k1, i2, hm⟩ := ckO_e hm
  obtain ⟨v3, ρ4, h5, hm⟩ := cll_e hm
  refine zx_callV (σ := σ) C [.int (p0)] tC_8 k1 i2 Y_X8_entries W_4_104 W_4_105 W_4_106 (c_X8_entries h5) (by decide) (by decide) rfl (Nat.le_of_ble_eq_true rfl) dX8_placeForEntry_2 rfl ?_
  refine zx_istore_n C [(2, .int (v3)), (0, .ref (a0)), (1, .int (p0))] dX8_placeForEntry_5 rfl (by decide) rfl ?_
  refine zx_iconst (v := 0) C dX8_placeForEntry_6 (by decide) ?_
  refine zx_istore_n C [(3, .int (0)), (2, .int (v3)), (0, .ref (a0)), (1, .int (p0))] dX8_placeForEntry_7 rfl (by decide) rfl ?_
  exact zx_lv [2, 3, 1, 0] [(0, .ref (a0)), (1, .int (p0)), (2, .int (v3)), (3, .int (0))] rfl (l_X8_placeForEntry_8 C htab hin  _ _ _ _ _ _ hm)
abbrev cX8_hasPlaceForEntry : ByteArray := prog_10_method_49_code
def yX8_hasPlaceForEntry : MethodName := ⟨"SyncTree$Tree", "hasPlaceForEntry", "(I)Z"⟩
theorem Y_X8_hasPlaceForEntry : tY yX8_hasPlaceForEntry cX8_hasPlaceForEntry 3 (some .boolean) 1 := ⟨W_4_161, W_1_4, ⟨by decide +kernel, by decide +kernel⟩, by decide +kernel⟩
theorem dX8_hasPlaceForEntry_0 : decode cX8_hasPlaceForEntry 0 = .ok (.aload_n 0, 1) := by decide +kernel
theorem dX8_hasPlaceForEntry_1 : decode cX8_hasPlaceForEntry 1 = .ok (.iload_n 1, 1) := by decide +kernel
theorem dX8_hasPlaceForEntry_2 : decode cX8_hasPlaceForEntry 2 = .ok (.invokevirtual 185, 3) := by decide +kernel
theorem dX8_hasPlaceForEntry_5 : decode cX8_hasPlaceForEntry 5 = .ok (.bipush 8, 2) := by decide +kernel
theorem dX8_hasPlaceForEntry_7 : decode cX8_hasPlaceForEntry 7 = .ok (.idiv, 1) := by decide +kernel
theorem dX8_hasPlaceForEntry_8 : decode cX8_hasPlaceForEntry 8 = .ok (.istore_n 2, 1) := by decide +kernel
theorem dX8_hasPlaceForEntry_9 : decode cX8_hasPlaceForEntry 9 = .ok (.aload_n 0, 1) := by decide +kernel
theorem dX8_hasPlaceForEntry_10 : decode cX8_hasPlaceForEntry 10 = .ok (.iload_n 1, 1) := by decide +kernel
theorem dX8_hasPlaceForEntry_11 : decode cX8_hasPlaceForEntry 11 = .ok (.iload_n 2, 1) := by decide +kernel
theorem dX8_hasPlaceForEntry_12 : decode cX8_hasPlaceForEntry 12 = .ok (.iload_n 2, 1) := by decide +kernel
theorem dX8_hasPlaceForEntry_13 : decode cX8_hasPlaceForEntry 13 = .ok (.invokevirtual 188, 3) := by decide +kernel
theorem dX8_hasPlaceForEntry_16 : decode cX8_hasPlaceForEntry 16 = .ok (.aload_n 0, 1) := by decide +kernel
theorem dX8_hasPlaceForEntry_17 : decode cX8_hasPlaceForEntry 17 = .ok (.getfield 15, 3) := by decide +kernel
theorem dX8_hasPlaceForEntry_20 : decode cX8_hasPlaceForEntry 20 = .ok (.getfield 192, 3) := by decide +kernel
theorem dX8_hasPlaceForEntry_23 : decode cX8_hasPlaceForEntry 23 = .ok (.if_icmp .gt 7, 3) := by decide +kernel
theorem dX8_hasPlaceForEntry_26 : decode cX8_hasPlaceForEntry 26 = .ok (.iconst 1, 1) := by decide +kernel
theorem dX8_hasPlaceForEntry_27 : decode cX8_hasPlaceForEntry 27 = .ok (.goto 4, 3) := by decide +kernel
theorem dX8_hasPlaceForEntry_30 : decode cX8_hasPlaceForEntry 30 = .ok (.iconst 0, 1) := by decide +kernel
theorem dX8_hasPlaceForEntry_31 : decode cX8_hasPlaceForEntry 31 = .ok (.ireturn, 1) := by decide +kernel
def J_X8_hasPlaceForEntry_31 (b0 fu : Nat)  (s0 : Int32) (σ : tM) : Option ((Int32) × tM) := ckZ (s0) (some (s0, σ))
def m_X8_hasPlaceForEntry (b0 fu : Nat) (a0 : Nat) (p0 : Int32) (σ : tM) : Option ((Int32) × tM) := grw σ (ckO b0 (σ) (a0) 8 (cll (m_X8_placeForEntry b0 fu (a0) (p0) (σ)) (fun v3 ρ4 => ltb (((v3) / (8) : Int32)) (fun y6 => ckO b0 (ρ4) (a0) 8 (cll (m_X8_needs b0 fu (a0) (p0) (y6) (y6) (ρ4)) (fun v9 ρ10 => ckO b0 (ρ10) (a0) 8 (osm (tA (ρ10) (a0) 0) (fun a14 => ckO b0 (ρ10) (a14) 5 (if (tI (ρ10) (a14) 9) < (v9) then J_X8_hasPlaceForEntry_31 b0 fu   (0) (ρ10) else J_X8_hasPlaceForEntry_31 b0 fu   (1) (ρ10))))))))))
set_option maxRecDepth 100000 in
set_option maxHeartbeats 1000000 in
theorem j_X8_hasPlaceForEntry_31 {p : Program} {l : Launch} {e : Env} {s : State} {m : MethodId} {args : Array Value} {below : List Frame} {meth : Method} {c : Code} {D : va_G} {aC : Nat → ClassId} {b0 fu : Nat} {σ0 τ : tM} {v : Int32}  (C : tCx p l s m args meth c yX8_hasPlaceForEntry.cls cX8_hasPlaceForEntry 3 (some .boolean) D aC b0 σ0) (htab : ∀ x ∈ c.exceptionTable.toList, False) (hin : meth.name = yX8_hasPlaceForEntry.name)  {s0 : Int32} {σ : tM} (hm : J_X8_hasPlaceForEntry_31 b0 fu  s0 σ = some (v, τ)) : tX p l e s m args below meth c 3 4 92 D aC b0 σ0 (.inl (some (.int v))) τ 31 [] [.int (s0)] σ := by
  unfold J_X8_hasPlaceForEntry_31 at hm
  obtain ⟨h19, hm⟩ := ckZ_e hm
  obtain ⟨rfl, rfl⟩ := ret_e hm
  exact zx_zret C rfl h19 rfl rfl dX8_hasPlaceForEntry_31
set_option maxRecDepth 100000 in
set_option maxHeartbeats 1000000 in
theorem c_X8_hasPlaceForEntry {l : Launch} {D : va_G} {aC : Nat → ClassId} {b0 fu : Nat} {a0 : Nat} {p0 : Int32} {σ τ : tM} {v : Int32} (hm : m_X8_hasPlaceForEntry b0 fu a0 p0 σ = some (v, τ)) : tMt l D aC b0 yX8_hasPlaceForEntry (Cond.code yX8_hasPlaceForEntry cX8_hasPlaceForEntry 3 (some .boolean)) 4 92 [.ref (a0), .int (p0)] σ (.inl (some (.int v))) τ := by
  unfold m_X8_hasPlaceForEntry at hm
  obtain ⟨hg, hm⟩ := grw_e hm
  refine tMt_of (n := 0) rfl (Nat.le_of_ble_eq_true rfl) hg ?_
  intro p e s m below meth c C htab hin
  refine zx_lv [0, 1] [(0, .ref (a0)), (1, .int (p0))] rfl ?_
  refine zx_aload_n C dX8_hasPlaceForEntry_0 0 rfl ?_
  refine zx_iload_n C dX8_hasPlaceForEntry_1 1 rfl ?_
  obtain ⟨k1, i2, hm⟩ := ckO_e hm
  obtain ⟨v3, ρ4, h5, hm⟩ := cll_e hm
  refine zx_callV (σ := σ) C [.int (p0)] tC_8 k1 i2 Y_X8_placeForEntry W_4_162 W_4_164 Wp_28 (c_X8_placeForEntry h5) (by decide) (by decide) rfl (Nat.le_of_ble_eq_true rfl) dX8_hasPlaceForEntry_2 rfl ?_
  refine zx_bipush (v := 8) C dX8_hasPlaceForEntry_5 (by decide) ?_
  refine zx_idiv C dX8_hasPlaceForEntry_7 (by decide) ?_
  refine zx_topi (fun y6 hy6 => ?_)
  replace hm := ltb_e hm hy6
  refine zx_istore_n C [(2, .int (y6)), (0, .ref (a0)), (1, .int (p0))] dX8_hasPlaceForEntry_8 rfl (by decide) rfl ?_
  refine zx_aload_n C dX8_hasPlaceForEntry_9 1 rfl ?_
  refine zx_iload_n C dX8_hasPlaceForEntry_10 2 rfl ?_
  refine zx_iload_n C dX8_hasPlaceForEntry_11 0 rfl ?_
  refine zx_iload_n C dX8_hasPlaceForEntry_12 0 rfl ?_
  obtain ⟨k7, i8, hm⟩ := ckO_e hm
  obtain ⟨v9, ρ10, h11, hm⟩ := cll_e hm
  refine zx_callV (σ := ρ4) C [.int (p0), .int (y6), .int (y6)] tC_8 k7 i8 Y_X8_needs W_4_170 W_4_171 W_4_172 (c_X8_needs h11) (by decide) (by decide) rfl (Nat.le_of_ble_eq_true rfl) dX8_hasPlaceForEntry_13 rfl ?_
  refine zx_aload_n C dX8_hasPlaceForEntry_16 1 rfl ?_
  obtain ⟨k12, i13, hm⟩ := ckO_e hm
  obtain ⟨a14, h15, hm⟩ := osm_e hm
  refine zx_get (j := 0) C tC_8 k12 i13 ⟨by decide, Or.inl W_1_163⟩ dX8_hasPlaceForEntry_17 (.ref a14) (rf_s h15) ?_
  obtain ⟨k16, i17, hm⟩ := ckO_e hm
  refine zx_get (j := 9) C tC_5 k16 i17 ⟨by decide, Or.inr ⟨_, W_1_109⟩⟩ dX8_hasPlaceForEntry_20 (.int (tI (ρ10) (a14) 9)) rfl ?_
  refine zx_icmp_gt C 30 dX8_hasPlaceForEntry_23 (by decide) (fun c18 => ?_) (fun c18 => ?_)
  · replace hm := ip_e hm c18
    refine zx_iconst (v := 0) C dX8_hasPlaceForEntry_30 (by decide) ?_
    exact zx_lv [] [] rfl (j_X8_hasPlaceForEntry_31 C htab hin    hm)
  · replace hm := in_e hm c18
    refine zx_iconst (v := 1) C dX8_hasPlaceForEntry_26 (by decide) ?_
    refine zx_goto C 31 dX8_hasPlaceForEntry_27 (by decide) ?_
    exact zx_lv [] [] rfl (j_X8_hasPlaceForEntry_31 C htab hin    hm)
abbrev cX8_setEntry : ByteArray := prog_10_method_51_code
def yX8_setEntry : MethodName := ⟨"SyncTree$Tree", "setEntry", "(IILSyncTree$PathText;I)V"⟩
theorem Y_X8_setEntry : tY yX8_setEntry cX8_setEntry 9 none 4 := ⟨W_4_228, W_1_4, ⟨by decide +kernel, by decide +kernel⟩, by decide +kernel⟩
theorem dX8_setEntry_0 : decode cX8_setEntry 0 = .ok (.aload_n 0, 1) := by decide +kernel
theorem dX8_setEntry_1 : decode cX8_setEntry 1 = .ok (.iload_n 1, 1) := by decide +kernel
theorem dX8_setEntry_2 : decode cX8_setEntry 2 = .ok (.iload_n 2, 1) := by decide +kernel
theorem dX8_setEntry_3 : decode cX8_setEntry 3 = .ok (.bipush 8, 2) := by decide +kernel
theorem dX8_setEntry_5 : decode cX8_setEntry 5 = .ok (.idiv, 1) := by decide +kernel
theorem dX8_setEntry_6 : decode cX8_setEntry 6 = .ok (.invokevirtual 112, 3) := by decide +kernel
theorem dX8_setEntry_9 : decode cX8_setEntry 9 = .ok (.invokestatic 104, 3) := by decide +kernel
theorem dX8_setEntry_12 : decode cX8_setEntry 12 = .ok (.istore 5, 2) := by decide +kernel
theorem dX8_setEntry_14 : decode cX8_setEntry 14 = .ok (.iload_n 2, 1) := by decide +kernel
theorem dX8_setEntry_15 : decode cX8_setEntry 15 = .ok (.bipush 8, 2) := by decide +kernel
theorem dX8_setEntry_17 : decode cX8_setEntry 17 = .ok (.irem, 1) := by decide +kernel
theorem dX8_setEntry_18 : decode cX8_setEntry 18 = .ok (.bipush 32, 2) := by decide +kernel
theorem dX8_setEntry_20 : decode cX8_setEntry 20 = .ok (.imul, 1) := by decide +kernel
theorem dX8_setEntry_21 : decode cX8_setEntry 21 = .ok (.istore 6, 2) := by decide +kernel
theorem dX8_setEntry_23 : decode cX8_setEntry 23 = .ok (.aload_n 3, 1) := by decide +kernel
theorem dX8_setEntry_24 : decode cX8_setEntry 24 = .ok (.getfield 178, 3) := by decide +kernel
theorem dX8_setEntry_27 : decode cX8_setEntry 27 = .ok (.bipush 28, 2) := by decide +kernel
theorem dX8_setEntry_29 : decode cX8_setEntry 29 = .ok (.invokestatic 73, 3) := by decide +kernel
theorem dX8_setEntry_32 : decode cX8_setEntry 32 = .ok (.istore 7, 2) := by decide +kernel
theorem dX8_setEntry_34 : decode cX8_setEntry 34 = .ok (.iconst 0, 1) := by decide +kernel
theorem dX8_setEntry_35 : decode cX8_setEntry 35 = .ok (.istore 8, 2) := by decide +kernel
theorem dX8_setEntry_37 : decode cX8_setEntry 37 = .ok (.iload 8, 2) := by decide +kernel
theorem dX8_setEntry_39 : decode cX8_setEntry 39 = .ok (.iload 7, 2) := by decide +kernel
theorem dX8_setEntry_41 : decode cX8_setEntry 41 = .ok (.if_icmp .ge 47, 3) := by decide +kernel
theorem dX8_setEntry_44 : decode cX8_setEntry 44 = .ok (.aload_n 3, 1) := by decide +kernel
theorem dX8_setEntry_45 : decode cX8_setEntry 45 = .ok (.getfield 175, 3) := by decide +kernel
theorem dX8_setEntry_48 : decode cX8_setEntry 48 = .ok (.iload 8, 2) := by decide +kernel
theorem dX8_setEntry_50 : decode cX8_setEntry 50 = .ok (.iadd, 1) := by decide +kernel
theorem dX8_setEntry_51 : decode cX8_setEntry 51 = .ok (.bipush 120, 2) := by decide +kernel
theorem dX8_setEntry_53 : decode cX8_setEntry 53 = .ok (.if_icmp .ge 35, 3) := by decide +kernel
theorem dX8_setEntry_56 : decode cX8_setEntry 56 = .ok (.aload_n 0, 1) := by decide +kernel
theorem dX8_setEntry_57 : decode cX8_setEntry 57 = .ok (.getfield 15, 3) := by decide +kernel
theorem dX8_setEntry_60 : decode cX8_setEntry 60 = .ok (.iload 5, 2) := by decide +kernel
theorem dX8_setEntry_62 : decode cX8_setEntry 62 = .ok (.iload 6, 2) := by decide +kernel
theorem dX8_setEntry_64 : decode cX8_setEntry 64 = .ok (.iload 8, 2) := by decide +kernel
theorem dX8_setEntry_66 : decode cX8_setEntry 66 = .ok (.iadd, 1) := by decide +kernel
theorem dX8_setEntry_67 : decode cX8_setEntry 67 = .ok (.aload_n 3, 1) := by decide +kernel
theorem dX8_setEntry_68 : decode cX8_setEntry 68 = .ok (.getfield 76, 3) := by decide +kernel
theorem dX8_setEntry_71 : decode cX8_setEntry 71 = .ok (.aload_n 3, 1) := by decide +kernel
theorem dX8_setEntry_72 : decode cX8_setEntry 72 = .ok (.getfield 175, 3) := by decide +kernel
theorem dX8_setEntry_75 : decode cX8_setEntry 75 = .ok (.iload 8, 2) := by decide +kernel
theorem dX8_setEntry_77 : decode cX8_setEntry 77 = .ok (.iadd, 1) := by decide +kernel
theorem dX8_setEntry_78 : decode cX8_setEntry 78 = .ok (.baload, 1) := by decide +kernel
theorem dX8_setEntry_79 : decode cX8_setEntry 79 = .ok (.invokevirtual 79, 3) := by decide +kernel
theorem dX8_setEntry_82 : decode cX8_setEntry 82 = .ok (.iinc 8 1, 3) := by decide +kernel
theorem dX8_setEntry_85 : decode cX8_setEntry 85 = .ok (.goto (-48), 3) := by decide +kernel
theorem dX8_setEntry_88 : decode cX8_setEntry 88 = .ok (.aload_n 0, 1) := by decide +kernel
theorem dX8_setEntry_89 : decode cX8_setEntry 89 = .ok (.getfield 15, 3) := by decide +kernel
theorem dX8_setEntry_92 : decode cX8_setEntry 92 = .ok (.iload 5, 2) := by decide +kernel
theorem dX8_setEntry_94 : decode cX8_setEntry 94 = .ok (.iload 6, 2) := by decide +kernel
theorem dX8_setEntry_96 : decode cX8_setEntry 96 = .ok (.bipush 28, 2) := by decide +kernel
theorem dX8_setEntry_98 : decode cX8_setEntry 98 = .ok (.iadd, 1) := by decide +kernel
theorem dX8_setEntry_99 : decode cX8_setEntry 99 = .ok (.iload 7, 2) := by decide +kernel
theorem dX8_setEntry_101 : decode cX8_setEntry 101 = .ok (.invokevirtual 79, 3) := by decide +kernel
theorem dX8_setEntry_104 : decode cX8_setEntry 104 = .ok (.aload_n 0, 1) := by decide +kernel
theorem dX8_setEntry_105 : decode cX8_setEntry 105 = .ok (.getfield 15, 3) := by decide +kernel
theorem dX8_setEntry_108 : decode cX8_setEntry 108 = .ok (.iload 5, 2) := by decide +kernel
theorem dX8_setEntry_110 : decode cX8_setEntry 110 = .ok (.iload 6, 2) := by decide +kernel
theorem dX8_setEntry_112 : decode cX8_setEntry 112 = .ok (.bipush 29, 2) := by decide +kernel
theorem dX8_setEntry_114 : decode cX8_setEntry 114 = .ok (.iadd, 1) := by decide +kernel
theorem dX8_setEntry_115 : decode cX8_setEntry 115 = .ok (.iload 4, 2) := by decide +kernel
theorem dX8_setEntry_117 : decode cX8_setEntry 117 = .ok (.invokevirtual 79, 3) := by decide +kernel
theorem dX8_setEntry_120 : decode cX8_setEntry 120 = .ok (.aload_n 0, 1) := by decide +kernel
theorem dX8_setEntry_121 : decode cX8_setEntry 121 = .ok (.getfield 15, 3) := by decide +kernel
theorem dX8_setEntry_124 : decode cX8_setEntry 124 = .ok (.iload 5, 2) := by decide +kernel
theorem dX8_setEntry_126 : decode cX8_setEntry 126 = .ok (.invokevirtual 26, 3) := by decide +kernel
theorem dX8_setEntry_129 : decode cX8_setEntry 129 = .ok (.return_, 1) := by decide +kernel
def J_X8_setEntry_88 (b0 fu : Nat)  (x0 : Nat) (x4 : Int32) (x5 : Int32) (x6 : Int32) (x7 : Int32) (σ : tM) : Option ((Unit) × tM) := ckO b0 (σ) (x0) 8 (osm (tA (σ) (x0) 0) (fun a16 => ckO b0 (σ) (a16) 5 (cll (m_X5_setOctet b0 fu (a16) (x5) ((x6) + (28)) (x7) (σ)) (fun v20 ρ21 => ckO b0 (ρ21) (x0) 8 (osm (tA (ρ21) (x0) 0) (fun a25 => ckO b0 (ρ21) (a25) 5 (cll (m_X5_setOctet b0 fu (a25) (x5) ((x6) + (29)) (x4) (ρ21)) (fun v29 ρ30 => ckO b0 (ρ30) (x0) 8 (osm (tA (ρ30) (x0) 0) (fun a34 => ckO b0 (ρ30) (a34) 5 (cll (m_X5_touch b0 fu (a34) (x5) (ρ30)) (fun v38 ρ39 => some ((), ρ39)))))))))))))
def L_X8_setEntry_37 (b0 fu : Nat)  : Nat → Nat → Nat → Int32 → Int32 → Int32 → Int32 → Int32 → tM → Option ((Unit) × tM)
  | 0, _, _, _, _, _, _, _, _ => none
  | n + 1, x0, x3, x4, x5, x6, x7, x8, σ => ltb (L_X8_setEntry_37 b0 fu  n) (fun rc37 => if (x7) ≤ (x8) then J_X8_setEntry_88 b0 fu   (x0) (x4) (x5) (x6) (x7) (σ) else ckO b0 (σ) (x3) 3 (if (120) ≤ ((tI (σ) (x3) 2) + (x8)) then J_X8_setEntry_88 b0 fu   (x0) (x4) (x5) (x6) (x7) (σ) else ckO b0 (σ) (x0) 8 (osm (tA (σ) (x0) 0) (fun a46 => osm (tA (σ) (x3) 0) (fun a48 => ckR b0 (σ) (a48) 1 (fun n52 => ckI ((tI (σ) (x3) 2) + (x8)) (n52) (ckO b0 (σ) (a46) 5 (cll (m_X5_setOctet b0 fu (a46) (x5) ((x6) + (x8)) (tI (σ) (a48) (((tI (σ) (x3) 2) + (x8)).toNatClampNeg)) (σ)) (fun v56 ρ57 => ltb ((x8) + Int32.ofInt 1) (fun y59 => rc37 (x0) (x3) (x4) (x5) (x6) (x7) (y59) (ρ57)))))))))))
def m_X8_setEntry (b0 fu : Nat) (a0 : Nat) (p0 : Int32) (p1 : Int32) (p2 : Nat) (p3 : Int32) (σ : tM) : Option ((Unit) × tM) := grw σ (ckO b0 (σ) (a0) 8 (cll (m_X8_pointer b0 fu (a0) (p0) ((p1) / (8)) (σ)) (fun v3 ρ4 => cll (m_X8_cellOf b0 fu (v3) (ρ4)) (fun v6 ρ7 => ltb ((((p1) - (p1) / (8) * (8)) * (32) : Int32)) (fun y9 => ckO b0 (ρ7) (p2) 3 (ltb (((if ((28 : Int32)) < (tI (ρ7) (p2) 3) then (28) else (tI (ρ7) (p2) 3) : Int32) : Int32)) (fun y12 => L_X8_setEntry_37 b0 fu  (fu) (a0) (p2) (p3) (v6) (y9) (y12) (0) (ρ7))))))))
set_option maxRecDepth 100000 in
set_option maxHeartbeats 1000000 in
theorem j_X8_setEntry_88 {p : Program} {l : Launch} {e : Env} {s : State} {m : MethodId} {args : Array Value} {below : List Frame} {meth : Method} {c : Code} {D : va_G} {aC : Nat → ClassId} {b0 fu : Nat} {σ0 τ : tM} {v : Unit}  (C : tCx p l s m args meth c yX8_setEntry.cls cX8_setEntry 9 none D aC b0 σ0) (htab : ∀ x ∈ c.exceptionTable.toList, False) (hin : meth.name = yX8_setEntry.name)  {x0 : Nat} {x4 : Int32} {x5 : Int32} {x6 : Int32} {x7 : Int32} {σ : tM} (hm : J_X8_setEntry_88 b0 fu  x0 x4 x5 x6 x7 σ = some (v, τ)) : tX p l e s m args below meth c 9 2 47 D aC b0 σ0 (.inl none) τ 88 [(0, .ref (x0)), (4, .int (x4)), (5, .int (x5)), (6, .int (x6)), (7, .int (x7))] [] σ := by
  unfold J_X8_setEntry_88 at hm
  refine zx_aload_n C dX8_setEntry_88 0 rfl ?_
  obtain ⟨k14, i15, hm⟩ := ckO_e hm
  obtain ⟨a16, h17, hm⟩ := osm_e hm
  refine zx_get (j := 0) C tC_8 k14 i15 ⟨by decide, Or.inl W_1_163⟩ dX8_setEntry_89 (.ref a16) (rf_s h17) ?_
  refine zx_iload C dX8_setEntry_92 2 rfl ?_
  refine zx_iload C dX8_setEntry_94 3 rfl ?_
  refine zx_bipush (v := 28) C dX8_setEntry_96 (by decide) ?_
  refine zx_iadd C dX8_setEntry_98 ?_
  refine zx_iload C dX8_setEntry_99 4 rfl ?_
  obtain ⟨k18, i19, hm⟩ := ckO_e hm
  obtain ⟨v20, ρ21, h22, hm⟩ := cll_e hm
  refine zx_callV (σ := σ) C [.int (x5), .int ((x6) + (28)), .int (x7)] tC_5 k18 i19 Y_X5_setOctet W_4_180 W_4_181 W_4_182 (c_X5_setOctet h22) (by decide) (by decide) rfl (Nat.le_of_ble_eq_true rfl) dX8_setEntry_101 rfl ?_
  refine zx_aload_n C dX8_setEntry_104 0 rfl ?_
  obtain ⟨k23, i24, hm⟩ := ckO_e hm
  obtain ⟨a25, h26, hm⟩ := osm_e hm
  refine zx_get (j := 0) C tC_8 k23 i24 ⟨by decide, Or.inl W_1_163⟩ dX8_setEntry_105 (.ref a25) (rf_s h26) ?_
  refine zx_iload C dX8_setEntry_108 2 rfl ?_
  refine zx_iload C dX8_setEntry_110 3 rfl ?_
  refine zx_bipush (v := 29) C dX8_setEntry_112 (by decide) ?_
  refine zx_iadd C dX8_setEntry_114 ?_
  refine zx_iload C dX8_setEntry_115 1 rfl ?_
  obtain ⟨k27, i28, hm⟩ := ckO_e hm
  obtain ⟨v29, ρ30, h31, hm⟩ := cll_e hm
  refine zx_callV (σ := ρ21) C [.int (x5), .int ((x6) + (29)), .int (x4)] tC_5 k27 i28 Y_X5_setOctet W_4_180 W_4_181 W_4_182 (c_X5_setOctet h31) (by decide) (by decide) rfl (Nat.le_of_ble_eq_true rfl) dX8_setEntry_117 rfl ?_
  refine zx_aload_n C dX8_setEntry_120 0 rfl ?_
  obtain ⟨k32, i33, hm⟩ := ckO_e hm
  obtain ⟨a34, h35, hm⟩ := osm_e hm
  refine zx_get (j := 0) C tC_8 k32 i33 ⟨by decide, Or.inl W_1_163⟩ dX8_setEntry_121 (.ref a34) (rf_s h35) ?_
  refine zx_iload C dX8_setEntry_124 2 rfl ?_
  obtain ⟨k36, i37, hm⟩ := ckO_e hm
  obtain ⟨v38, ρ39, h40, hm⟩ := cll_e hm
  refine zx_callV (σ := ρ30) C [.int (x5)] tC_5 k36 i37 Y_X5_touch W_2_156 W_2_157 W_2_158 (c_X5_touch h40) (by decide) (by decide) rfl (Nat.le_of_ble_eq_true rfl) dX8_setEntry_126 rfl ?_
  obtain ⟨rfl, rfl⟩ := ret_e hm
  exact zx_vret C rfl rfl rfl dX8_setEntry_129
set_option maxRecDepth 100000 in
set_option maxHeartbeats 1000000 in
theorem l_X8_setEntry_37 {p : Program} {l : Launch} {e : Env} {s : State} {m : MethodId} {args : Array Value} {below : List Frame} {meth : Method} {c : Code} {D : va_G} {aC : Nat → ClassId} {b0 fu : Nat} {σ0 τ : tM} {v : Unit}  (C : tCx p l s m args meth c yX8_setEntry.cls cX8_setEntry 9 none D aC b0 σ0) (htab : ∀ x ∈ c.exceptionTable.toList, False) (hin : meth.name = yX8_setEntry.name)  : ∀ (n : Nat) (x0 : Nat) (x3 : Nat) (x4 : Int32) (x5 : Int32) (x6 : Int32) (x7 : Int32) (x8 : Int32) (σ : tM), L_X8_setEntry_37 b0 fu  n x0 x3 x4 x5 x6 x7 x8 σ = some (v, τ) → tX p l e s m args below meth c 9 2 47 D aC b0 σ0 (.inl none) τ 37 [(0, .ref (x0)), (3, .ref (x3)), (4, .int (x4)), (5, .int (x5)), (6, .int (x6)), (7, .int (x7)), (8, .int (x8))] [] σ := by
  intro n
  induction n with
  | zero => intro x0 x3 x4 x5 x6 x7 x8 σ hm; unfold L_X8_setEntry_37 at hm; cases hm
  | succ n ih =>
    intro x0 x3 x4 x5 x6 x7 x8 σ hm
    unfold L_X8_setEntry_37 at hm
    obtain ⟨rc37, hrc⟩ : ∃ z, z = L_X8_setEntry_37 b0 fu  n := ⟨_, rfl⟩
    replace hm := ltb_e hm hrc
    rw [← hrc] at ih
    have hrc37 := ih
    clear ih hrc
    refine zx_iload C dX8_setEntry_37 6 rfl ?_
    refine zx_iload C dX8_setEntry_39 5 rfl ?_
    refine zx_icmp_ge C 88 dX8_setEntry_41 (by decide) (fun c13 => ?_) (fun c13 => ?_)
    · replace hm := ip_e hm c13
      exact zx_lv [0, 2, 3, 4, 5] [(0, .ref (x0)), (4, .int (x4)), (5, .int (x5)), (6, .int (x6)), (7, .int (x7))] rfl (j_X8_setEntry_88 C htab hin    hm)
    · replace hm := in_e hm c13
      refine zx_aload_n C dX8_setEntry_44 1 rfl ?_
      obtain ⟨k41, i42, hm⟩ := ckO_e hm
      refine zx_get (j := 2) C tC_3 k41 i42 ⟨by decide, Or.inr ⟨_, W_2_65⟩⟩ dX8_setEntry_45 (.int (tI (σ) (x3) 2)) rfl ?_
      refine zx_iload C dX8_setEntry_48 6 rfl ?_
      refine zx_iadd C dX8_setEntry_50 ?_
      refine zx_bipush (v := 120) C dX8_setEntry_51 (by decide) ?_
      refine zx_icmp_ge C 88 dX8_setEntry_53 (by decide) (fun c43 => ?_) (fun c43 => ?_)
      · replace hm := ip_e hm c43
        exact zx_lv [0, 2, 3, 4, 5] [(0, .ref (x0)), (4, .int (x4)), (5, .int (x5)), (6, .int (x6)), (7, .int (x7))] rfl (j_X8_setEntry_88 C htab hin    hm)
      · replace hm := in_e hm c43
        refine zx_aload_n C dX8_setEntry_56 0 rfl ?_
        obtain ⟨k44, i45, hm⟩ := ckO_e hm
        obtain ⟨a46, h47, hm⟩ := osm_e hm
        refine zx_get (j := 0) C tC_8 k44 i45 ⟨by decide, Or.inl W_1_163⟩ dX8_setEntry_57 (.ref a46) (rf_s h47) ?_
        refine zx_iload C dX8_setEntry_60 3 rfl ?_
        refine zx_iload C dX8_setEntry_62 4 rfl ?_
        refine zx_iload C dX8_setEntry_64 6 rfl ?_
        refine zx_iadd C dX8_setEntry_66 ?_
        refine zx_aload_n C dX8_setEntry_67 1 rfl ?_
        obtain ⟨a48, h49, hm⟩ := osm_e hm
        refine zx_get (j := 0) C tC_3 k41 i42 ⟨by decide, Or.inr ⟨_, W_2_58⟩⟩ dX8_setEntry_68 (.ref a48) (rf_s h49) ?_
        refine zx_aload_n C dX8_setEntry_71 1 rfl ?_
        refine zx_get (j := 2) C tC_3 k41 i42 ⟨by decide, Or.inr ⟨_, W_2_65⟩⟩ dX8_setEntry_72 (.int (tI (σ) (x3) 2)) rfl ?_
        refine zx_iload C dX8_setEntry_75 6 rfl ?_
        refine zx_iadd C dX8_setEntry_77 ?_
        obtain ⟨n52, k50, i51, hm⟩ := ckR_e hm
        obtain ⟨h53, hm⟩ := ckI_e hm
        refine zx_bald C k50 i51 h53 dX8_setEntry_78 ?_
        obtain ⟨k54, i55, hm⟩ := ckO_e hm
        obtain ⟨v56, ρ57, h58, hm⟩ := cll_e hm
        refine zx_callV (σ := σ) C [.int (x5), .int ((x6) + (x8)), .int (tI (σ) (a48) (((tI (σ) (x3) 2) + (x8)).toNatClampNeg))] tC_5 k54 i55 Y_X5_setOctet W_4_180 W_4_181 W_4_182 (c_X5_setOctet h58) (by decide) (by decide) rfl (Nat.le_of_ble_eq_true rfl) dX8_setEntry_79 rfl ?_
        obtain ⟨y59, hy59⟩ : ∃ z : Int32, z = (x8) + Int32.ofInt 1 := ⟨_, rfl⟩
        replace hm := ltb_e hm hy59
        refine zx_iinc C [(8, .int (y59)), (0, .ref (x0)), (3, .ref (x3)), (4, .int (x4)), (5, .int (x5)), (6, .int (x6)), (7, .int (x7))] dX8_setEntry_82 6 rfl hy59.symm (by decide) rfl ?_
        refine zx_goto C 37 dX8_setEntry_85 (by decide) ?_
        exact zx_lv [1, 2, 3, 4, 5, 6, 0] [(0, .ref (x0)), (3, .ref (x3)), (4, .int (x4)), (5, .int (x5)), (6, .int (x6)), (7, .int (x7)), (8, .int (y59))] rfl (hrc37 _ _ _ _ _ _ _ _ hm)
set_option maxRecDepth 100000 in
set_option maxHeartbeats 1000000 in
theorem c_X8_setEntry {l : Launch} {D : va_G} {aC : Nat → ClassId} {b0 fu : Nat} {a0 : Nat} {p0 : Int32} {p1 : Int32} {p2 : Nat} {p3 : Int32} {σ τ : tM} {v : Unit} (hm : m_X8_setEntry b0 fu a0 p0 p1 p2 p3 σ = some (v, τ)) : tMt l D aC b0 yX8_setEntry (Cond.code yX8_setEntry cX8_setEntry 9 none) 2 47 [.ref (a0), .int (p0), .int (p1), .ref (p2), .int (p3)] σ (.inl none) τ := by
  unfold m_X8_setEntry at hm
  obtain ⟨hg, hm⟩ := grw_e hm
  refine tMt_of (n := 0) rfl (Nat.le_of_ble_eq_true rfl) hg ?_
  intro p e s m below meth c C htab hin
  refine zx_lv [0, 1, 2, 3, 4] [(0, .ref (a0)), (1, .int (p0)), (2, .int (p1)), (3, .ref (p2)), (4, .int (p3))] rfl ?_
  refine zx_aload_n C dX8_setEntry_0 0 rfl ?_
  refine zx_iload_n C dX8_setEntry_1 1 rfl ?_
  refine zx_iload_n C dX8_setEntry_2 2 rfl ?_
  refine zx_bipush (v := 8) C dX8_setEntry_3 (by decide) ?_
  refine zx_idiv C dX8_setEntry_5 (by decide) ?_
  obtain ⟨k1, i2, hm⟩ := ckO_e hm
  obtain ⟨v3, ρ4, h5, hm⟩ := cll_e hm
  refine zx_callV (σ := σ) C [.int (p0), .int ((p1) / (8))] tC_8 k1 i2 Y_X8_pointer W_4_109 W_4_110 W_4_111 (c_X8_pointer h5) (by decide) (by decide) rfl (Nat.le_of_ble_eq_true rfl) dX8_setEntry_6 rfl ?_
  obtain ⟨v6, ρ7, h8, hm⟩ := cll_e hm
  refine zx_callS (σ := ρ4) C [.long (v3)] Y_X8_cellOf W_4_117 W_4_118 (c_X8_cellOf h8) (by decide) (by decide) rfl (Nat.le_of_ble_eq_true rfl) dX8_setEntry_9 rfl ?_
  refine zx_istore C [(5, .int (v6)), (0, .ref (a0)), (1, .int (p0)), (2, .int (p1)), (3, .ref (p2)), (4, .int (p3))] dX8_setEntry_12 (by decide) rfl ?_
  refine zx_iload_n C dX8_setEntry_14 3 rfl ?_
  refine zx_bipush (v := 8) C dX8_setEntry_15 (by decide) ?_
  refine zx_irem C dX8_setEntry_17 (by decide) ?_
  refine zx_bipush (v := 32) C dX8_setEntry_18 (by decide) ?_
  refine zx_imul C dX8_setEntry_20 ?_
  refine zx_topi (fun y9 hy9 => ?_)
  replace hm := ltb_e hm hy9
  refine zx_istore C [(6, .int (y9)), (5, .int (v6)), (0, .ref (a0)), (1, .int (p0)), (2, .int (p1)), (3, .ref (p2)), (4, .int (p3))] dX8_setEntry_21 (by decide) rfl ?_
  refine zx_aload_n C dX8_setEntry_23 5 rfl ?_
  obtain ⟨k10, i11, hm⟩ := ckO_e hm
  refine zx_get (j := 3) C tC_3 k10 i11 ⟨by decide, Or.inr ⟨_, W_2_68⟩⟩ dX8_setEntry_24 (.int (tI (ρ7) (p2) 3)) rfl ?_
  refine zx_bipush (v := 28) C dX8_setEntry_27 (by decide) ?_
  refine zx_min C W_4_179 W_2_106 W_1_10 W_2_107 (by decide) (by decide) (Nat.le_of_ble_eq_true rfl) dX8_setEntry_29 ?_
  refine zx_topi (fun y12 hy12 => ?_)
  replace hm := ltb_e hm hy12
  refine zx_istore C [(7, .int (y12)), (6, .int (y9)), (5, .int (v6)), (0, .ref (a0)), (1, .int (p0)), (2, .int (p1)), (3, .ref (p2)), (4, .int (p3))] dX8_setEntry_32 (by decide) rfl ?_
  refine zx_iconst (v := 0) C dX8_setEntry_34 (by decide) ?_
  refine zx_istore C [(8, .int (0)), (7, .int (y12)), (6, .int (y9)), (5, .int (v6)), (0, .ref (a0)), (1, .int (p0)), (2, .int (p1)), (3, .ref (p2)), (4, .int (p3))] dX8_setEntry_35 (by decide) rfl ?_
  exact zx_lv [4, 7, 8, 3, 2, 1, 0] [(0, .ref (a0)), (3, .ref (p2)), (4, .int (p3)), (5, .int (v6)), (6, .int (y9)), (7, .int (y12)), (8, .int (0))] rfl (l_X8_setEntry_37 C htab hin  _ _ _ _ _ _ _ _ _ hm)
abbrev cX9_init : ByteArray := prog_11_method_1_code
def yX9_init : MethodName := ⟨"SyncTree$Walker", "<init>", "(LSyncTree$Tree;)V"⟩
theorem Y_X9_init : tY yX9_init cX9_init 2 none 1 := ⟨W_2_18, W_1_7, ⟨by decide +kernel, by decide +kernel⟩, by decide +kernel⟩
theorem dX9_init_0 : decode cX9_init 0 = .ok (.aload_n 0, 1) := by decide +kernel
theorem dX9_init_1 : decode cX9_init 1 = .ok (.invokespecial 3, 3) := by decide +kernel
theorem dX9_init_4 : decode cX9_init 4 = .ok (.aload_n 0, 1) := by decide +kernel
theorem dX9_init_5 : decode cX9_init 5 = .ok (.sipush 760, 3) := by decide +kernel
theorem dX9_init_8 : decode cX9_init 8 = .ok (.newarray .byte, 2) := by decide +kernel
theorem dX9_init_10 : decode cX9_init 10 = .ok (.putfield 11, 3) := by decide +kernel
theorem dX9_init_13 : decode cX9_init 13 = .ok (.aload_n 0, 1) := by decide +kernel
theorem dX9_init_14 : decode cX9_init 14 = .ok (.aload_n 1, 1) := by decide +kernel
theorem dX9_init_15 : decode cX9_init 15 = .ok (.putfield 15, 3) := by decide +kernel
theorem dX9_init_18 : decode cX9_init 18 = .ok (.return_, 1) := by decide +kernel
def m_X9_init (b0 fu : Nat) (a0 : Nat) (p0 : Nat) (σ : tM) : Option ((Unit) × tM) := grw σ (ltb (sN (σ) (b0 + tn σ) (.inr (1, ((760 : Int32)).toNatClampNeg)) (((760 : Int32)).toNatClampNeg)) (fun ρ1 => ckO b0 (ρ1) (a0) 9 (some ((), sA (sA (ρ1) (a0) 1 (some (b0 + tn σ))) (a0) 0 (some (p0))))))
set_option maxRecDepth 100000 in
set_option maxHeartbeats 1000000 in
theorem c_X9_init {l : Launch} {D : va_G} {aC : Nat → ClassId} {b0 fu : Nat} {a0 : Nat} {p0 : Nat} {σ τ : tM} {v : Unit} (hm : m_X9_init b0 fu a0 p0 σ = some (v, τ)) : tMt l D aC b0 yX9_init (Cond.code yX9_init cX9_init 2 none) 1 20 [.ref (a0), .ref (p0)] σ (.inl none) τ := by
  unfold m_X9_init at hm
  obtain ⟨hg, hm⟩ := grw_e hm
  refine tMt_of (n := 0) rfl (Nat.le_of_ble_eq_true rfl) hg ?_
  intro p e s m below meth c C htab hin
  refine zx_lv [0, 1] [(0, .ref (a0)), (1, .ref (p0))] rfl ?_
  refine zx_aload_n C dX9_init_0 0 rfl ?_
  refine zx_obj C W_2_19 W_1_26 W_1_27 (by decide) (by decide) (Nat.le_of_ble_eq_true rfl) dX9_init_1 ?_
  refine zx_aload_n C dX9_init_4 0 rfl ?_
  refine zx_sipush (v := 760) C dX9_init_5 (by decide) ?_
  refine zx_newB C W_1_156 (by decide) (by decide) dX9_init_8 ?_
  refine zx_mem (fun ρ1 hρ1 => ?_)
  replace hm := ltb_e hm hρ1
  have k2 : tk ρ1 (b0 + tn σ) = .inr (1, ((760 : Int32)).toNatClampNeg) := by rw [hρ1]; exact sN_k _ _ _ _
  have i3 : tIn b0 ρ1 (b0 + tn σ) := by rw [hρ1]; exact sN_i _ _ _ _
  obtain ⟨k4, i5, hm⟩ := ckO_e hm
  refine zx_putF (j := 1) (ρ := sA (ρ1) (a0) 1 (some (b0 + tn σ))) C hin tC_9 k4 i5 (by decide) W_2_21 rfl rfl rfl rfl (sA_ok (fun _ => rfl)) dX9_init_10 ?_
  refine zx_aload_n C dX9_init_13 0 rfl ?_
  refine zx_aload_n C dX9_init_14 1 rfl ?_
  refine zx_putF (j := 0) (ρ := sA (sA (ρ1) (a0) 1 (some (b0 + tn σ))) (a0) 0 (some (p0))) C hin tC_9 k4 i5 (by decide) W_2_20 rfl rfl rfl rfl (sA_ok (fun _ => rfl)) dX9_init_15 ?_
  obtain ⟨rfl, rfl⟩ := ret_e hm
  exact zx_vret C rfl rfl rfl dX9_init_18
abbrev cX9_endOfSlashes : ByteArray := prog_11_method_5_code
def yX9_endOfSlashes : MethodName := ⟨"SyncTree$Walker", "endOfSlashes", "(I)I"⟩
theorem Y_X9_endOfSlashes : tY yX9_endOfSlashes cX9_endOfSlashes 3 (some .int) 1 := ⟨W_4_83, W_1_7, ⟨by decide +kernel, by decide +kernel⟩, by decide +kernel⟩
theorem dX9_endOfSlashes_0 : decode cX9_endOfSlashes 0 = .ok (.iload_n 1, 1) := by decide +kernel
theorem dX9_endOfSlashes_1 : decode cX9_endOfSlashes 1 = .ok (.iconst 0, 1) := by decide +kernel
theorem dX9_endOfSlashes_2 : decode cX9_endOfSlashes 2 = .ok (.invokestatic 48, 3) := by decide +kernel
theorem dX9_endOfSlashes_5 : decode cX9_endOfSlashes 5 = .ok (.istore_n 2, 1) := by decide +kernel
theorem dX9_endOfSlashes_6 : decode cX9_endOfSlashes 6 = .ok (.iload_n 2, 1) := by decide +kernel
theorem dX9_endOfSlashes_7 : decode cX9_endOfSlashes 7 = .ok (.aload_n 0, 1) := by decide +kernel
theorem dX9_endOfSlashes_8 : decode cX9_endOfSlashes 8 = .ok (.getfield 51, 3) := by decide +kernel
theorem dX9_endOfSlashes_11 : decode cX9_endOfSlashes 11 = .ok (.if_icmp .ge 20, 3) := by decide +kernel
theorem dX9_endOfSlashes_14 : decode cX9_endOfSlashes 14 = .ok (.aload_n 0, 1) := by decide +kernel
theorem dX9_endOfSlashes_15 : decode cX9_endOfSlashes 15 = .ok (.getfield 11, 3) := by decide +kernel
theorem dX9_endOfSlashes_18 : decode cX9_endOfSlashes 18 = .ok (.iload_n 2, 1) := by decide +kernel
theorem dX9_endOfSlashes_19 : decode cX9_endOfSlashes 19 = .ok (.baload, 1) := by decide +kernel
theorem dX9_endOfSlashes_20 : decode cX9_endOfSlashes 20 = .ok (.bipush 47, 2) := by decide +kernel
theorem dX9_endOfSlashes_22 : decode cX9_endOfSlashes 22 = .ok (.if_icmp .ne 9, 3) := by decide +kernel
theorem dX9_endOfSlashes_25 : decode cX9_endOfSlashes 25 = .ok (.iinc 2 1, 3) := by decide +kernel
theorem dX9_endOfSlashes_28 : decode cX9_endOfSlashes 28 = .ok (.goto (-22), 3) := by decide +kernel
theorem dX9_endOfSlashes_31 : decode cX9_endOfSlashes 31 = .ok (.iload_n 2, 1) := by decide +kernel
theorem dX9_endOfSlashes_32 : decode cX9_endOfSlashes 32 = .ok (.ireturn, 1) := by decide +kernel
def J_X9_endOfSlashes_31 (b0 fu : Nat)  (x2 : Int32) (σ : tM) : Option ((Int32) × tM) := some (x2, σ)
def L_X9_endOfSlashes_6 (b0 fu : Nat)  : Nat → Nat → Int32 → tM → Option ((Int32) × tM)
  | 0, _, _, _ => none
  | n + 1, x0, x2, σ => ltb (L_X9_endOfSlashes_6 b0 fu  n) (fun rc6 => ckO b0 (σ) (x0) 9 (if (tI (σ) (x0) 3) ≤ (x2) then J_X9_endOfSlashes_31 b0 fu   (x2) (σ) else osm (tA (σ) (x0) 1) (fun a5 => ckR b0 (σ) (a5) 1 (fun n9 => ckI (x2) (n9) (if (tI (σ) (a5) ((x2).toNatClampNeg)) = (47) then ltb ((x2) + Int32.ofInt 1) (fun y12 => rc6 (x0) (y12) (σ)) else J_X9_endOfSlashes_31 b0 fu   (x2) (σ))))))
def m_X9_endOfSlashes (b0 fu : Nat) (a0 : Nat) (p0 : Int32) (σ : tM) : Option ((Int32) × tM) := grw σ (ltb (((if (p0) < ((0 : Int32)) then (0) else (p0) : Int32) : Int32)) (fun y1 => L_X9_endOfSlashes_6 b0 fu  (fu) (a0) (y1) (σ)))
set_option maxRecDepth 100000 in
set_option maxHeartbeats 1000000 in
theorem j_X9_endOfSlashes_31 {p : Program} {l : Launch} {e : Env} {s : State} {m : MethodId} {args : Array Value} {below : List Frame} {meth : Method} {c : Code} {D : va_G} {aC : Nat → ClassId} {b0 fu : Nat} {σ0 τ : tM} {v : Int32}  (C : tCx p l s m args meth c yX9_endOfSlashes.cls cX9_endOfSlashes 3 (some .int) D aC b0 σ0) (htab : ∀ x ∈ c.exceptionTable.toList, False) (hin : meth.name = yX9_endOfSlashes.name)  {x2 : Int32} {σ : tM} (hm : J_X9_endOfSlashes_31 b0 fu  x2 σ = some (v, τ)) : tX p l e s m args below meth c 3 1 21 D aC b0 σ0 (.inl (some (.int v))) τ 31 [(2, .int (x2))] [] σ := by
  unfold J_X9_endOfSlashes_31 at hm
  refine zx_iload_n C dX9_endOfSlashes_31 0 rfl ?_
  obtain ⟨rfl, rfl⟩ := ret_e hm
  exact zx_iret C rfl rfl rfl dX9_endOfSlashes_32
set_option maxRecDepth 100000 in
set_option maxHeartbeats 1000000 in
theorem l_X9_endOfSlashes_6 {p : Program} {l : Launch} {e : Env} {s : State} {m : MethodId} {args : Array Value} {below : List Frame} {meth : Method} {c : Code} {D : va_G} {aC : Nat → ClassId} {b0 fu : Nat} {σ0 τ : tM} {v : Int32}  (C : tCx p l s m args meth c yX9_endOfSlashes.cls cX9_endOfSlashes 3 (some .int) D aC b0 σ0) (htab : ∀ x ∈ c.exceptionTable.toList, False) (hin : meth.name = yX9_endOfSlashes.name)  : ∀ (n : Nat) (x0 : Nat) (x2 : Int32) (σ : tM), L_X9_endOfSlashes_6 b0 fu  n x0 x2 σ = some (v, τ) → tX p l e s m args below meth c 3 1 21 D aC b0 σ0 (.inl (some (.int v))) τ 6 [(0, .ref (x0)), (2, .int (x2))] [] σ := by
  intro n
  induction n with
  | zero => intro x0 x2 σ hm; unfold L_X9_endOfSlashes_6 at hm; cases hm
  | succ n ih =>
    intro x0 x2 σ hm
    unfold L_X9_endOfSlashes_6 at hm
    obtain ⟨rc6, hrc⟩ : ∃ z, z = L_X9_endOfSlashes_6 b0 fu  n := ⟨_, rfl⟩
    replace hm := ltb_e hm hrc
    rw [← hrc] at ih
    have hrc6 := ih
    clear ih hrc
    refine zx_iload_n C dX9_endOfSlashes_6 1 rfl ?_
    refine zx_aload_n C dX9_endOfSlashes_7 0 rfl ?_
    obtain ⟨k2, i3, hm⟩ := ckO_e hm
    refine zx_get (j := 3) C tC_9 k2 i3 ⟨by decide, Or.inl W_2_23⟩ dX9_endOfSlashes_8 (.int (tI (σ) (x0) 3)) rfl ?_
    refine zx_icmp_ge C 31 dX9_endOfSlashes_11 (by decide) (fun c4 => ?_) (fun c4 => ?_)
    · replace hm := ip_e hm c4
      exact zx_lv [1] [(2, .int (x2))] rfl (j_X9_endOfSlashes_31 C htab hin    hm)
    · replace hm := in_e hm c4
      refine zx_aload_n C dX9_endOfSlashes_14 0 rfl ?_
      obtain ⟨a5, h6, hm⟩ := osm_e hm
      refine zx_get (j := 1) C tC_9 k2 i3 ⟨by decide, Or.inl W_2_21⟩ dX9_endOfSlashes_15 (.ref a5) (rf_s h6) ?_
      refine zx_iload_n C dX9_endOfSlashes_18 1 rfl ?_
      obtain ⟨n9, k7, i8, hm⟩ := ckR_e hm
      obtain ⟨h10, hm⟩ := ckI_e hm
      refine zx_bald C k7 i8 h10 dX9_endOfSlashes_19 ?_
      refine zx_bipush (v := 47) C dX9_endOfSlashes_20 (by decide) ?_
      refine zx_icmp_ne C 31 dX9_endOfSlashes_22 (by decide) (fun c11 => ?_) (fun c11 => ?_)
      · replace hm := in_e hm c11
        exact zx_lv [1] [(2, .int (x2))] rfl (j_X9_endOfSlashes_31 C htab hin    hm)
      · replace hm := ip_e hm c11
        obtain ⟨y12, hy12⟩ : ∃ z : Int32, z = (x2) + Int32.ofInt 1 := ⟨_, rfl⟩
        replace hm := ltb_e hm hy12
        refine zx_iinc C [(2, .int (y12)), (0, .ref (x0))] dX9_endOfSlashes_25 1 rfl hy12.symm (by decide) rfl ?_
        refine zx_goto C 6 dX9_endOfSlashes_28 (by decide) ?_
        exact zx_lv [1, 0] [(0, .ref (x0)), (2, .int (y12))] rfl (hrc6 _ _ _ hm)
set_option maxRecDepth 100000 in
set_option maxHeartbeats 1000000 in
theorem c_X9_endOfSlashes {l : Launch} {D : va_G} {aC : Nat → ClassId} {b0 fu : Nat} {a0 : Nat} {p0 : Int32} {σ τ : tM} {v : Int32} (hm : m_X9_endOfSlashes b0 fu a0 p0 σ = some (v, τ)) : tMt l D aC b0 yX9_endOfSlashes (Cond.code yX9_endOfSlashes cX9_endOfSlashes 3 (some .int)) 1 21 [.ref (a0), .int (p0)] σ (.inl (some (.int v))) τ := by
  unfold m_X9_endOfSlashes at hm
  obtain ⟨hg, hm⟩ := grw_e hm
  refine tMt_of (n := 0) rfl (Nat.le_of_ble_eq_true rfl) hg ?_
  intro p e s m below meth c C htab hin
  refine zx_lv [0, 1] [(0, .ref (a0)), (1, .int (p0))] rfl ?_
  refine zx_iload_n C dX9_endOfSlashes_0 1 rfl ?_
  refine zx_iconst (v := 0) C dX9_endOfSlashes_1 (by decide) ?_
  refine zx_max C W_4_78 W_2_109 W_1_10 W_2_110 (by decide) (by decide) (Nat.le_of_ble_eq_true rfl) dX9_endOfSlashes_2 ?_
  refine zx_topi (fun y1 hy1 => ?_)
  replace hm := ltb_e hm hy1
  refine zx_istore_n C [(2, .int (y1)), (0, .ref (a0)), (1, .int (p0))] dX9_endOfSlashes_5 rfl (by decide) rfl ?_
  exact zx_lv [1, 0] [(0, .ref (a0)), (2, .int (y1))] rfl (l_X9_endOfSlashes_6 C htab hin  _ _ _ _ hm)
abbrev cX9_endOfName : ByteArray := prog_11_method_6_code
def yX9_endOfName : MethodName := ⟨"SyncTree$Walker", "endOfName", "(I)I"⟩
theorem Y_X9_endOfName : tY yX9_endOfName cX9_endOfName 3 (some .int) 1 := ⟨W_4_87, W_1_7, ⟨by decide +kernel, by decide +kernel⟩, by decide +kernel⟩
theorem dX9_endOfName_0 : decode cX9_endOfName 0 = .ok (.iload_n 1, 1) := by decide +kernel
theorem dX9_endOfName_1 : decode cX9_endOfName 1 = .ok (.iconst 0, 1) := by decide +kernel
theorem dX9_endOfName_2 : decode cX9_endOfName 2 = .ok (.invokestatic 48, 3) := by decide +kernel
theorem dX9_endOfName_5 : decode cX9_endOfName 5 = .ok (.istore_n 2, 1) := by decide +kernel
theorem dX9_endOfName_6 : decode cX9_endOfName 6 = .ok (.iload_n 2, 1) := by decide +kernel
theorem dX9_endOfName_7 : decode cX9_endOfName 7 = .ok (.aload_n 0, 1) := by decide +kernel
theorem dX9_endOfName_8 : decode cX9_endOfName 8 = .ok (.getfield 51, 3) := by decide +kernel
theorem dX9_endOfName_11 : decode cX9_endOfName 11 = .ok (.if_icmp .ge 20, 3) := by decide +kernel
theorem dX9_endOfName_14 : decode cX9_endOfName 14 = .ok (.aload_n 0, 1) := by decide +kernel
theorem dX9_endOfName_15 : decode cX9_endOfName 15 = .ok (.getfield 11, 3) := by decide +kernel
theorem dX9_endOfName_18 : decode cX9_endOfName 18 = .ok (.iload_n 2, 1) := by decide +kernel
theorem dX9_endOfName_19 : decode cX9_endOfName 19 = .ok (.baload, 1) := by decide +kernel
theorem dX9_endOfName_20 : decode cX9_endOfName 20 = .ok (.bipush 47, 2) := by decide +kernel
theorem dX9_endOfName_22 : decode cX9_endOfName 22 = .ok (.if_icmp .eq 9, 3) := by decide +kernel
theorem dX9_endOfName_25 : decode cX9_endOfName 25 = .ok (.iinc 2 1, 3) := by decide +kernel
theorem dX9_endOfName_28 : decode cX9_endOfName 28 = .ok (.goto (-22), 3) := by decide +kernel
theorem dX9_endOfName_31 : decode cX9_endOfName 31 = .ok (.iload_n 2, 1) := by decide +kernel
theorem dX9_endOfName_32 : decode cX9_endOfName 32 = .ok (.ireturn, 1) := by decide +kernel
def J_X9_endOfName_31 (b0 fu : Nat)  (x2 : Int32) (σ : tM) : Option ((Int32) × tM) := some (x2, σ)
def L_X9_endOfName_6 (b0 fu : Nat)  : Nat → Nat → Int32 → tM → Option ((Int32) × tM)
  | 0, _, _, _ => none
  | n + 1, x0, x2, σ => ltb (L_X9_endOfName_6 b0 fu  n) (fun rc6 => ckO b0 (σ) (x0) 9 (if (tI (σ) (x0) 3) ≤ (x2) then J_X9_endOfName_31 b0 fu   (x2) (σ) else osm (tA (σ) (x0) 1) (fun a5 => ckR b0 (σ) (a5) 1 (fun n9 => ckI (x2) (n9) (if (tI (σ) (a5) ((x2).toNatClampNeg)) = (47) then J_X9_endOfName_31 b0 fu   (x2) (σ) else ltb ((x2) + Int32.ofInt 1) (fun y12 => rc6 (x0) (y12) (σ)))))))
def m_X9_endOfName (b0 fu : Nat) (a0 : Nat) (p0 : Int32) (σ : tM) : Option ((Int32) × tM) := grw σ (ltb (((if (p0) < ((0 : Int32)) then (0) else (p0) : Int32) : Int32)) (fun y1 => L_X9_endOfName_6 b0 fu  (fu) (a0) (y1) (σ)))
set_option maxRecDepth 100000 in
set_option maxHeartbeats 1000000 in
theorem j_X9_endOfName_31 {p : Program} {l : Launch} {e : Env} {s : State} {m : MethodId} {args : Array Value} {below : List Frame} {meth : Method} {c : Code} {D : va_G} {aC : Nat → ClassId} {b0 fu : Nat} {σ0 τ : tM} {v : Int32}  (C : tCx p l s m args meth c yX9_endOfName.cls cX9_endOfName 3 (some .int) D aC b0 σ0) (htab : ∀ x ∈ c.exceptionTable.toList, False) (hin : meth.name = yX9_endOfName.name)  {x2 : Int32} {σ : tM} (hm : J_X9_endOfName_31 b0 fu  x2 σ = some (v, τ)) : tX p l e s m args below meth c 3 1 21 D aC b0 σ0 (.inl (some (.int v))) τ 31 [(2, .int (x2))] [] σ := by
  unfold J_X9_endOfName_31 at hm
  refine zx_iload_n C dX9_endOfName_31 0 rfl ?_
  obtain ⟨rfl, rfl⟩ := ret_e hm
  exact zx_iret C rfl rfl rfl dX9_endOfName_32
set_option maxRecDepth 100000 in
set_option maxHeartbeats 1000000 in
theorem l_X9_endOfName_6 {p : Program} {l : Launch} {e : Env} {s : State} {m : MethodId} {args : Array Value} {below : List Frame} {meth : Method} {c : Code} {D : va_G} {aC : Nat → ClassId} {b0 fu : Nat} {σ0 τ : tM} {v : Int32}  (C : tCx p l s m args meth c yX9_endOfName.cls cX9_endOfName 3 (some .int) D aC b0 σ0) (htab : ∀ x ∈ c.exceptionTable.toList, False) (hin : meth.name = yX9_endOfName.name)  : ∀ (n : Nat) (x0 : Nat) (x2 : Int32) (σ : tM), L_X9_endOfName_6 b0 fu  n x0 x2 σ = some (v, τ) → tX p l e s m args below meth c 3 1 21 D aC b0 σ0 (.inl (some (.int v))) τ 6 [(0, .ref (x0)), (2, .int (x2))] [] σ := by
  intro n
  induction n with
  | zero => intro x0 x2 σ hm; unfold L_X9_endOfName_6 at hm; cases hm
  | succ n ih =>
    intro x0 x2 σ hm
    unfold L_X9_endOfName_6 at hm
    obtain ⟨rc6, hrc⟩ : ∃ z, z = L_X9_endOfName_6 b0 fu  n := ⟨_, rfl⟩
    replace hm := ltb_e hm hrc
    rw [← hrc] at ih
    have hrc6 := ih
    clear ih hrc
    refine zx_iload_n C dX9_endOfName_6 1 rfl ?_
    refine zx_aload_n C dX9_endOfName_7 0 rfl ?_
    obtain ⟨k2, i3, hm⟩ := ckO_e hm
    refine zx_get (j := 3) C tC_9 k2 i3 ⟨by decide, Or.inl W_2_23⟩ dX9_endOfName_8 (.int (tI (σ) (x0) 3)) rfl ?_
    refine zx_icmp_ge C 31 dX9_endOfName_11 (by decide) (fun c4 => ?_) (fun c4 => ?_)
    · replace hm := ip_e hm c4
      exact zx_lv [1] [(2, .int (x2))] rfl (j_X9_endOfName_31 C htab hin    hm)
    · replace hm := in_e hm c4
      refine zx_aload_n C dX9_endOfName_14 0 rfl ?_
      obtain ⟨a5, h6, hm⟩ := osm_e hm
      refine zx_get (j := 1) C tC_9 k2 i3 ⟨by decide, Or.inl W_2_21⟩ dX9_endOfName_15 (.ref a5) (rf_s h6) ?_
      refine zx_iload_n C dX9_endOfName_18 1 rfl ?_
      obtain ⟨n9, k7, i8, hm⟩ := ckR_e hm
      obtain ⟨h10, hm⟩ := ckI_e hm
      refine zx_bald C k7 i8 h10 dX9_endOfName_19 ?_
      refine zx_bipush (v := 47) C dX9_endOfName_20 (by decide) ?_
      refine zx_icmp_eq C 31 dX9_endOfName_22 (by decide) (fun c11 => ?_) (fun c11 => ?_)
      · replace hm := ip_e hm c11
        exact zx_lv [1] [(2, .int (x2))] rfl (j_X9_endOfName_31 C htab hin    hm)
      · replace hm := in_e hm c11
        obtain ⟨y12, hy12⟩ : ∃ z : Int32, z = (x2) + Int32.ofInt 1 := ⟨_, rfl⟩
        replace hm := ltb_e hm hy12
        refine zx_iinc C [(2, .int (y12)), (0, .ref (x0))] dX9_endOfName_25 1 rfl hy12.symm (by decide) rfl ?_
        refine zx_goto C 6 dX9_endOfName_28 (by decide) ?_
        exact zx_lv [1, 0] [(0, .ref (x0)), (2, .int (y12))] rfl (hrc6 _ _ _ hm)
set_option maxRecDepth 100000 in
set_option maxHeartbeats 1000000 in
theorem c_X9_endOfName {l : Launch} {D : va_G} {aC : Nat → ClassId} {b0 fu : Nat} {a0 : Nat} {p0 : Int32} {σ τ : tM} {v : Int32} (hm : m_X9_endOfName b0 fu a0 p0 σ = some (v, τ)) : tMt l D aC b0 yX9_endOfName (Cond.code yX9_endOfName cX9_endOfName 3 (some .int)) 1 21 [.ref (a0), .int (p0)] σ (.inl (some (.int v))) τ := by
  unfold m_X9_endOfName at hm
  obtain ⟨hg, hm⟩ := grw_e hm
  refine tMt_of (n := 0) rfl (Nat.le_of_ble_eq_true rfl) hg ?_
  intro p e s m below meth c C htab hin
  refine zx_lv [0, 1] [(0, .ref (a0)), (1, .int (p0))] rfl ?_
  refine zx_iload_n C dX9_endOfName_0 1 rfl ?_
  refine zx_iconst (v := 0) C dX9_endOfName_1 (by decide) ?_
  refine zx_max C W_4_78 W_2_109 W_1_10 W_2_110 (by decide) (by decide) (Nat.le_of_ble_eq_true rfl) dX9_endOfName_2 ?_
  refine zx_topi (fun y1 hy1 => ?_)
  replace hm := ltb_e hm hy1
  refine zx_istore_n C [(2, .int (y1)), (0, .ref (a0)), (1, .int (p0))] dX9_endOfName_5 rfl (by decide) rfl ?_
  exact zx_lv [1, 0] [(0, .ref (a0)), (2, .int (y1))] rfl (l_X9_endOfName_6 C htab hin  _ _ _ _ hm)
abbrev cX9_look : ByteArray := prog_11_method_7_code
def yX9_look : MethodName := ⟨"SyncTree$Walker", "look", "(III)I"⟩
theorem Y_X9_look : tY yX9_look cX9_look 5 (some .int) 3 := ⟨W_4_91, W_1_7, ⟨by decide +kernel, by decide +kernel⟩, by decide +kernel⟩
theorem dX9_look_0 : decode cX9_look 0 = .ok (.aload_n 0, 1) := by decide +kernel
theorem dX9_look_1 : decode cX9_look 1 = .ok (.getfield 15, 3) := by decide +kernel
theorem dX9_look_4 : decode cX9_look 4 = .ok (.iload_n 1, 1) := by decide +kernel
theorem dX9_look_5 : decode cX9_look 5 = .ok (.invokevirtual 36, 3) := by decide +kernel
theorem dX9_look_8 : decode cX9_look 8 = .ok (.iconst 2, 1) := by decide +kernel
theorem dX9_look_9 : decode cX9_look 9 = .ok (.if_icmp .eq 6, 3) := by decide +kernel
theorem dX9_look_12 : decode cX9_look 12 = .ok (.bipush (-3), 2) := by decide +kernel
theorem dX9_look_14 : decode cX9_look 14 = .ok (.ireturn, 1) := by decide +kernel
theorem dX9_look_15 : decode cX9_look 15 = .ok (.aload_n 0, 1) := by decide +kernel
theorem dX9_look_16 : decode cX9_look 16 = .ok (.getfield 11, 3) := by decide +kernel
theorem dX9_look_19 : decode cX9_look 19 = .ok (.iload_n 2, 1) := by decide +kernel
theorem dX9_look_20 : decode cX9_look 20 = .ok (.iload_n 3, 1) := by decide +kernel
theorem dX9_look_21 : decode cX9_look 21 = .ok (.invokestatic 83, 3) := by decide +kernel
theorem dX9_look_24 : decode cX9_look 24 = .ok (.ifCond .eq 21, 3) := by decide +kernel
theorem dX9_look_27 : decode cX9_look 27 = .ok (.iload_n 3, 1) := by decide +kernel
theorem dX9_look_28 : decode cX9_look 28 = .ok (.iconst 1, 1) := by decide +kernel
theorem dX9_look_29 : decode cX9_look 29 = .ok (.if_icmp .ne 7, 3) := by decide +kernel
theorem dX9_look_32 : decode cX9_look 32 = .ok (.iload_n 1, 1) := by decide +kernel
theorem dX9_look_33 : decode cX9_look 33 = .ok (.goto 11, 3) := by decide +kernel
theorem dX9_look_36 : decode cX9_look 36 = .ok (.aload_n 0, 1) := by decide +kernel
theorem dX9_look_37 : decode cX9_look 37 = .ok (.getfield 15, 3) := by decide +kernel
theorem dX9_look_40 : decode cX9_look 40 = .ok (.iload_n 1, 1) := by decide +kernel
theorem dX9_look_41 : decode cX9_look 41 = .ok (.invokevirtual 87, 3) := by decide +kernel
theorem dX9_look_44 : decode cX9_look 44 = .ok (.ireturn, 1) := by decide +kernel
theorem dX9_look_45 : decode cX9_look 45 = .ok (.iload_n 3, 1) := by decide +kernel
theorem dX9_look_46 : decode cX9_look 46 = .ok (.bipush 28, 2) := by decide +kernel
theorem dX9_look_48 : decode cX9_look 48 = .ok (.if_icmp .le 6, 3) := by decide +kernel
theorem dX9_look_51 : decode cX9_look 51 = .ok (.bipush (-7), 2) := by decide +kernel
theorem dX9_look_53 : decode cX9_look 53 = .ok (.ireturn, 1) := by decide +kernel
theorem dX9_look_54 : decode cX9_look 54 = .ok (.aload_n 0, 1) := by decide +kernel
theorem dX9_look_55 : decode cX9_look 55 = .ok (.getfield 15, 3) := by decide +kernel
theorem dX9_look_58 : decode cX9_look 58 = .ok (.iload_n 1, 1) := by decide +kernel
theorem dX9_look_59 : decode cX9_look 59 = .ok (.aload_n 0, 1) := by decide +kernel
theorem dX9_look_60 : decode cX9_look 60 = .ok (.getfield 11, 3) := by decide +kernel
theorem dX9_look_63 : decode cX9_look 63 = .ok (.iload_n 2, 1) := by decide +kernel
theorem dX9_look_64 : decode cX9_look 64 = .ok (.iload_n 3, 1) := by decide +kernel
theorem dX9_look_65 : decode cX9_look 65 = .ok (.invokevirtual 90, 3) := by decide +kernel
theorem dX9_look_68 : decode cX9_look 68 = .ok (.istore 4, 2) := by decide +kernel
theorem dX9_look_70 : decode cX9_look 70 = .ok (.iload 4, 2) := by decide +kernel
theorem dX9_look_72 : decode cX9_look 72 = .ok (.ifCond .ge 7, 3) := by decide +kernel
theorem dX9_look_75 : decode cX9_look 75 = .ok (.iconst (-1), 1) := by decide +kernel
theorem dX9_look_76 : decode cX9_look 76 = .ok (.goto 13, 3) := by decide +kernel
theorem dX9_look_79 : decode cX9_look 79 = .ok (.aload_n 0, 1) := by decide +kernel
theorem dX9_look_80 : decode cX9_look 80 = .ok (.getfield 15, 3) := by decide +kernel
theorem dX9_look_83 : decode cX9_look 83 = .ok (.iload_n 1, 1) := by decide +kernel
theorem dX9_look_84 : decode cX9_look 84 = .ok (.iload 4, 2) := by decide +kernel
theorem dX9_look_86 : decode cX9_look 86 = .ok (.invokevirtual 94, 3) := by decide +kernel
theorem dX9_look_89 : decode cX9_look 89 = .ok (.ireturn, 1) := by decide +kernel
def J_X9_look_89 (b0 fu : Nat)  (s0 : Int32) (σ : tM) : Option ((Int32) × tM) := some (s0, σ)
def J_X9_look_44 (b0 fu : Nat)  (s0 : Int32) (σ : tM) : Option ((Int32) × tM) := some (s0, σ)
def m_X9_look (b0 fu : Nat) (a0 : Nat) (p0 : Int32) (p1 : Int32) (p2 : Int32) (σ : tM) : Option ((Int32) × tM) := grw σ (ckO b0 (σ) (a0) 9 (osm (tA (σ) (a0) 0) (fun a3 => ckO b0 (σ) (a3) 8 (cll (m_X8_kind b0 fu (a3) (p0) (σ)) (fun v7 ρ8 => if (v7) = (2) then ckO b0 (ρ8) (a0) 9 (osm (tA (ρ8) (a0) 1) (fun a13 => cll (m_X3_isDots b0 fu (a13) (p1) (p2) (ρ8)) (fun v15 ρ16 => if (v15) = (0) then if (p2) ≤ (28) then ckO b0 (ρ16) (a0) 9 (osm (tA (ρ16) (a0) 0) (fun a22 => osm (tA (ρ16) (a0) 1) (fun a24 => ckO b0 (ρ16) (a22) 8 (cll (m_X8_find b0 fu (a22) (p0) (a24) (p1) (p2) (ρ16)) (fun v28 ρ29 => if (0) ≤ (v28) then ckO b0 (ρ29) (a0) 9 (osm (tA (ρ29) (a0) 0) (fun a34 => ckO b0 (ρ29) (a34) 8 (cll (m_X8_nodeAt b0 fu (a34) (p0) (v28) (ρ29)) (fun v38 ρ39 => J_X9_look_89 b0 fu   (v38) (ρ39))))) else J_X9_look_89 b0 fu   ((-1)) (ρ29)))))) else some ((-7), ρ16) else if (p2) = (1) then J_X9_look_44 b0 fu   (p0) (ρ16) else ckO b0 (ρ16) (a0) 9 (osm (tA (ρ16) (a0) 0) (fun a44 => ckO b0 (ρ16) (a44) 8 (cll (m_X8_parent b0 fu (a44) (p0) (ρ16)) (fun v48 ρ49 => J_X9_look_44 b0 fu   (v48) (ρ49)))))))) else some ((-3), ρ8))))))
set_option maxRecDepth 100000 in
set_option maxHeartbeats 1000000 in
theorem j_X9_look_89 {p : Program} {l : Launch} {e : Env} {s : State} {m : MethodId} {args : Array Value} {below : List Frame} {meth : Method} {c : Code} {D : va_G} {aC : Nat → ClassId} {b0 fu : Nat} {σ0 τ : tM} {v : Int32}  (C : tCx p l s m args meth c yX9_look.cls cX9_look 5 (some .int) D aC b0 σ0) (htab : ∀ x ∈ c.exceptionTable.toList, False) (hin : meth.name = yX9_look.name)  {s0 : Int32} {σ : tM} (hm : J_X9_look_89 b0 fu  s0 σ = some (v, τ)) : tX p l e s m args below meth c 5 3 76 D aC b0 σ0 (.inl (some (.int v))) τ 89 [] [.int (s0)] σ := by
  unfold J_X9_look_89 at hm
  obtain ⟨rfl, rfl⟩ := ret_e hm
  exact zx_iret C rfl rfl rfl dX9_look_89
set_option maxRecDepth 100000 in
set_option maxHeartbeats 1000000 in
theorem j_X9_look_44 {p : Program} {l : Launch} {e : Env} {s : State} {m : MethodId} {args : Array Value} {below : List Frame} {meth : Method} {c : Code} {D : va_G} {aC : Nat → ClassId} {b0 fu : Nat} {σ0 τ : tM} {v : Int32}  (C : tCx p l s m args meth c yX9_look.cls cX9_look 5 (some .int) D aC b0 σ0) (htab : ∀ x ∈ c.exceptionTable.toList, False) (hin : meth.name = yX9_look.name)  {s0 : Int32} {σ : tM} (hm : J_X9_look_44 b0 fu  s0 σ = some (v, τ)) : tX p l e s m args below meth c 5 3 76 D aC b0 σ0 (.inl (some (.int v))) τ 44 [] [.int (s0)] σ := by
  unfold J_X9_look_44 at hm
  obtain ⟨rfl, rfl⟩ := ret_e hm
  exact zx_iret C rfl rfl rfl dX9_look_44
set_option maxRecDepth 100000 in
set_option maxHeartbeats 1000000 in
theorem c_X9_look {l : Launch} {D : va_G} {aC : Nat → ClassId} {b0 fu : Nat} {a0 : Nat} {p0 : Int32} {p1 : Int32} {p2 : Int32} {σ τ : tM} {v : Int32} (hm : m_X9_look b0 fu a0 p0 p1 p2 σ = some (v, τ)) : tMt l D aC b0 yX9_look (Cond.code yX9_look cX9_look 5 (some .int)) 3 76 [.ref (a0), .int (p0), .int (p1), .int (p2)] σ (.inl (some (.int v))) τ := by
  unfold m_X9_look at hm
  obtain ⟨hg, hm⟩ := grw_e hm
  refine tMt_of (n := 0) rfl (Nat.le_of_ble_eq_true rfl) hg ?_
  intro p e s m below meth c C htab hin
  refine zx_lv [0, 1, 2, 3] [(0, .ref (a0)), (1, .int (p0)), (2, .int (p1)), (3, .int (p2))] rfl ?_
  refine zx_aload_n C dX9_look_0 0 rfl ?_
  obtain ⟨k1, i2, hm⟩ := ckO_e hm
  obtain ⟨a3, h4, hm⟩ := osm_e hm
  refine zx_get (j := 0) C tC_9 k1 i2 ⟨by decide, Or.inl W_2_20⟩ dX9_look_1 (.ref a3) (rf_s h4) ?_
  refine zx_iload_n C dX9_look_4 1 rfl ?_
  obtain ⟨k5, i6, hm⟩ := ckO_e hm
  obtain ⟨v7, ρ8, h9, hm⟩ := cll_e hm
  refine zx_callV (σ := σ) C [.int (p0)] tC_8 k5 i6 Y_X8_kind W_4_92 W_3_80 W_3_81 (c_X8_kind h9) (by decide) (by decide) rfl (Nat.le_of_ble_eq_true rfl) dX9_look_5 rfl ?_
  refine zx_iconst (v := 2) C dX9_look_8 (by decide) ?_
  refine zx_icmp_eq C 15 dX9_look_9 (by decide) (fun c10 => ?_) (fun c10 => ?_)
  · replace hm := ip_e hm c10
    refine zx_aload_n C dX9_look_15 0 rfl ?_
    obtain ⟨k11, i12, hm⟩ := ckO_e hm
    obtain ⟨a13, h14, hm⟩ := osm_e hm
    refine zx_get (j := 1) C tC_9 k11 i12 ⟨by decide, Or.inl W_2_21⟩ dX9_look_16 (.ref a13) (rf_s h14) ?_
    refine zx_iload_n C dX9_look_19 2 rfl ?_
    refine zx_iload_n C dX9_look_20 3 rfl ?_
    obtain ⟨v15, ρ16, h17, hm⟩ := cll_e hm
    refine zx_callS (σ := ρ8) C [.ref (a13), .int (p1), .int (p2)] Y_X3_isDots W_4_93 W_4_94 (c_X3_isDots h17) (by decide) (by decide) rfl (Nat.le_of_ble_eq_true rfl) dX9_look_21 rfl ?_
    refine zx_if_eq C 45 dX9_look_24 (by decide) (fun c18 => ?_) (fun c18 => ?_)
    · replace hm := ip_e hm c18
      refine zx_iload_n C dX9_look_45 3 rfl ?_
      refine zx_bipush (v := 28) C dX9_look_46 (by decide) ?_
      refine zx_icmp_le C 54 dX9_look_48 (by decide) (fun c19 => ?_) (fun c19 => ?_)
      · replace hm := ip_e hm c19
        refine zx_aload_n C dX9_look_54 0 rfl ?_
        obtain ⟨k20, i21, hm⟩ := ckO_e hm
        obtain ⟨a22, h23, hm⟩ := osm_e hm
        refine zx_get (j := 0) C tC_9 k20 i21 ⟨by decide, Or.inl W_2_20⟩ dX9_look_55 (.ref a22) (rf_s h23) ?_
        refine zx_iload_n C dX9_look_58 1 rfl ?_
        refine zx_aload_n C dX9_look_59 0 rfl ?_
        obtain ⟨a24, h25, hm⟩ := osm_e hm
        refine zx_get (j := 1) C tC_9 k20 i21 ⟨by decide, Or.inl W_2_21⟩ dX9_look_60 (.ref a24) (rf_s h25) ?_
        refine zx_iload_n C dX9_look_63 2 rfl ?_
        refine zx_iload_n C dX9_look_64 3 rfl ?_
        obtain ⟨k26, i27, hm⟩ := ckO_e hm
        obtain ⟨v28, ρ29, h30, hm⟩ := cll_e hm
        refine zx_callV (σ := ρ16) C [.int (p0), .ref (a24), .int (p1), .int (p2)] tC_8 k26 i27 Y_X8_find W_4_100 W_4_101 W_4_102 (c_X8_find h30) (by decide) (by decide) rfl (Nat.le_of_ble_eq_true rfl) dX9_look_65 rfl ?_
        refine zx_istore C [(4, .int (v28)), (0, .ref (a0)), (1, .int (p0)), (2, .int (p1)), (3, .int (p2))] dX9_look_68 (by decide) rfl ?_
        refine zx_iload C dX9_look_70 0 rfl ?_
        refine zx_if_ge C 79 dX9_look_72 (by decide) (fun c31 => ?_) (fun c31 => ?_)
        · replace hm := ip_e hm c31
          refine zx_aload_n C dX9_look_79 1 rfl ?_
          obtain ⟨k32, i33, hm⟩ := ckO_e hm
          obtain ⟨a34, h35, hm⟩ := osm_e hm
          refine zx_get (j := 0) C tC_9 k32 i33 ⟨by decide, Or.inl W_2_20⟩ dX9_look_80 (.ref a34) (rf_s h35) ?_
          refine zx_iload_n C dX9_look_83 2 rfl ?_
          refine zx_iload C dX9_look_84 0 rfl ?_
          obtain ⟨k36, i37, hm⟩ := ckO_e hm
          obtain ⟨v38, ρ39, h40, hm⟩ := cll_e hm
          refine zx_callV (σ := ρ29) C [.int (p0), .int (v28)] tC_8 k36 i37 Y_X8_nodeAt W_4_124 W_4_125 W_4_126 (c_X8_nodeAt h40) (by decide) (by decide) rfl (Nat.le_of_ble_eq_true rfl) dX9_look_86 rfl ?_
          exact zx_lv [] [] rfl (j_X9_look_89 C htab hin    hm)
        · replace hm := in_e hm c31
          refine zx_iconst (v := (-1)) C dX9_look_75 (by decide) ?_
          refine zx_goto C 89 dX9_look_76 (by decide) ?_
          exact zx_lv [] [] rfl (j_X9_look_89 C htab hin    hm)
      · replace hm := in_e hm c19
        refine zx_bipush (v := (-7)) C dX9_look_51 (by decide) ?_
        obtain ⟨rfl, rfl⟩ := ret_e hm
        exact zx_iret C rfl rfl rfl dX9_look_53
    · replace hm := in_e hm c18
      refine zx_iload_n C dX9_look_27 3 rfl ?_
      refine zx_iconst (v := 1) C dX9_look_28 (by decide) ?_
      refine zx_icmp_ne C 36 dX9_look_29 (by decide) (fun c41 => ?_) (fun c41 => ?_)
      · replace hm := in_e hm c41
        refine zx_aload_n C dX9_look_36 0 rfl ?_
        obtain ⟨k42, i43, hm⟩ := ckO_e hm
        obtain ⟨a44, h45, hm⟩ := osm_e hm
        refine zx_get (j := 0) C tC_9 k42 i43 ⟨by decide, Or.inl W_2_20⟩ dX9_look_37 (.ref a44) (rf_s h45) ?_
        refine zx_iload_n C dX9_look_40 1 rfl ?_
        obtain ⟨k46, i47, hm⟩ := ckO_e hm
        obtain ⟨v48, ρ49, h50, hm⟩ := cll_e hm
        refine zx_callV (σ := ρ16) C [.int (p0)] tC_8 k46 i47 Y_X8_parent W_4_96 W_4_97 W_4_98 (c_X8_parent h50) (by decide) (by decide) rfl (Nat.le_of_ble_eq_true rfl) dX9_look_41 rfl ?_
        exact zx_lv [] [] rfl (j_X9_look_44 C htab hin    hm)
      · replace hm := ip_e hm c41
        refine zx_iload_n C dX9_look_32 1 rfl ?_
        refine zx_goto C 44 dX9_look_33 (by decide) ?_
        exact zx_lv [] [] rfl (j_X9_look_44 C htab hin    hm)
  · replace hm := in_e hm c10
    refine zx_bipush (v := (-3)) C dX9_look_12 (by decide) ?_
    obtain ⟨rfl, rfl⟩ := ret_e hm
    exact zx_iret C rfl rfl rfl dX9_look_14
