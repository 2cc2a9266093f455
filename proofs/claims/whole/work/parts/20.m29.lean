abbrev cX12_bytes : ByteArray := prog_13_method_87_code
def yX12_bytes : MethodName := ⟨"SyncTreeModel", "bytes", "(IIII)I"⟩
theorem Y_X12_bytes : tY yX12_bytes cX12_bytes 10 (some .int) 4 := ⟨W_8_232, W_1_14, ⟨by decide +kernel, by decide +kernel⟩, by decide +kernel⟩
theorem dX12_bytes_0 : decode cX12_bytes 0 = .ok (.iload_n 2, 1) := by decide +kernel
theorem dX12_bytes_1 : decode cX12_bytes 1 = .ok (.i2l, 1) := by decide +kernel
theorem dX12_bytes_2 : decode cX12_bytes 2 = .ok (.iload_n 3, 1) := by decide +kernel
theorem dX12_bytes_3 : decode cX12_bytes 3 = .ok (.i2l, 1) := by decide +kernel
theorem dX12_bytes_4 : decode cX12_bytes 4 = .ok (.ladd, 1) := by decide +kernel
theorem dX12_bytes_5 : decode cX12_bytes 5 = .ok (.ldc2_w 449, 3) := by decide +kernel
theorem dX12_bytes_8 : decode cX12_bytes 8 = .ok (.lcmp, 1) := by decide +kernel
theorem dX12_bytes_9 : decode cX12_bytes 9 = .ok (.ifCond .le 6, 3) := by decide +kernel
theorem dX12_bytes_12 : decode cX12_bytes 12 = .ok (.bipush (-7), 2) := by decide +kernel
theorem dX12_bytes_14 : decode cX12_bytes 14 = .ok (.ireturn, 1) := by decide +kernel
theorem dX12_bytes_15 : decode cX12_bytes 15 = .ok (.iload_n 3, 1) := by decide +kernel
theorem dX12_bytes_16 : decode cX12_bytes 16 = .ok (.ifCond .ne 5, 3) := by decide +kernel
theorem dX12_bytes_19 : decode cX12_bytes 19 = .ok (.iconst 0, 1) := by decide +kernel
theorem dX12_bytes_20 : decode cX12_bytes 20 = .ok (.ireturn, 1) := by decide +kernel
theorem dX12_bytes_21 : decode cX12_bytes 21 = .ok (.aload_n 0, 1) := by decide +kernel
theorem dX12_bytes_22 : decode cX12_bytes 22 = .ok (.getfield 286, 3) := by decide +kernel
theorem dX12_bytes_25 : decode cX12_bytes 25 = .ok (.iload_n 1, 1) := by decide +kernel
theorem dX12_bytes_26 : decode cX12_bytes 26 = .ok (.iaload, 1) := by decide +kernel
theorem dX12_bytes_27 : decode cX12_bytes 27 = .ok (.istore 5, 2) := by decide +kernel
theorem dX12_bytes_29 : decode cX12_bytes 29 = .ok (.iload_n 2, 1) := by decide +kernel
theorem dX12_bytes_30 : decode cX12_bytes 30 = .ok (.sipush 256, 3) := by decide +kernel
theorem dX12_bytes_33 : decode cX12_bytes 33 = .ok (.idiv, 1) := by decide +kernel
theorem dX12_bytes_34 : decode cX12_bytes 34 = .ok (.istore 6, 2) := by decide +kernel
theorem dX12_bytes_36 : decode cX12_bytes 36 = .ok (.iload_n 2, 1) := by decide +kernel
theorem dX12_bytes_37 : decode cX12_bytes 37 = .ok (.iload_n 3, 1) := by decide +kernel
theorem dX12_bytes_38 : decode cX12_bytes 38 = .ok (.iadd, 1) := by decide +kernel
theorem dX12_bytes_39 : decode cX12_bytes 39 = .ok (.iconst 1, 1) := by decide +kernel
theorem dX12_bytes_40 : decode cX12_bytes 40 = .ok (.isub, 1) := by decide +kernel
theorem dX12_bytes_41 : decode cX12_bytes 41 = .ok (.sipush 256, 3) := by decide +kernel
theorem dX12_bytes_44 : decode cX12_bytes 44 = .ok (.idiv, 1) := by decide +kernel
theorem dX12_bytes_45 : decode cX12_bytes 45 = .ok (.istore 7, 2) := by decide +kernel
theorem dX12_bytes_47 : decode cX12_bytes 47 = .ok (.aload_n 0, 1) := by decide +kernel
theorem dX12_bytes_48 : decode cX12_bytes 48 = .ok (.iload 5, 2) := by decide +kernel
theorem dX12_bytes_50 : decode cX12_bytes 50 = .ok (.iload 6, 2) := by decide +kernel
theorem dX12_bytes_52 : decode cX12_bytes 52 = .ok (.iload 7, 2) := by decide +kernel
theorem dX12_bytes_54 : decode cX12_bytes 54 = .ok (.invokevirtual 308, 3) := by decide +kernel
theorem dX12_bytes_57 : decode cX12_bytes 57 = .ok (.aload_n 0, 1) := by decide +kernel
theorem dX12_bytes_58 : decode cX12_bytes 58 = .ok (.invokevirtual 311, 3) := by decide +kernel
theorem dX12_bytes_61 : decode cX12_bytes 61 = .ok (.if_icmp .le 6, 3) := by decide +kernel
theorem dX12_bytes_64 : decode cX12_bytes 64 = .ok (.bipush (-6), 2) := by decide +kernel
theorem dX12_bytes_66 : decode cX12_bytes 66 = .ok (.ireturn, 1) := by decide +kernel
theorem dX12_bytes_67 : decode cX12_bytes 67 = .ok (.iload_n 2, 1) := by decide +kernel
theorem dX12_bytes_68 : decode cX12_bytes 68 = .ok (.iload_n 3, 1) := by decide +kernel
theorem dX12_bytes_69 : decode cX12_bytes 69 = .ok (.iadd, 1) := by decide +kernel
theorem dX12_bytes_70 : decode cX12_bytes 70 = .ok (.aload_n 0, 1) := by decide +kernel
theorem dX12_bytes_71 : decode cX12_bytes 71 = .ok (.iload 5, 2) := by decide +kernel
theorem dX12_bytes_73 : decode cX12_bytes 73 = .ok (.iconst 1, 1) := by decide +kernel
theorem dX12_bytes_74 : decode cX12_bytes 74 = .ok (.invokevirtual 247, 3) := by decide +kernel
theorem dX12_bytes_77 : decode cX12_bytes 77 = .ok (.if_icmp .le 12, 3) := by decide +kernel
theorem dX12_bytes_80 : decode cX12_bytes 80 = .ok (.aload_n 0, 1) := by decide +kernel
theorem dX12_bytes_81 : decode cX12_bytes 81 = .ok (.iload 5, 2) := by decide +kernel
theorem dX12_bytes_83 : decode cX12_bytes 83 = .ok (.iload_n 2, 1) := by decide +kernel
theorem dX12_bytes_84 : decode cX12_bytes 84 = .ok (.iload_n 3, 1) := by decide +kernel
theorem dX12_bytes_85 : decode cX12_bytes 85 = .ok (.iadd, 1) := by decide +kernel
theorem dX12_bytes_86 : decode cX12_bytes 86 = .ok (.invokevirtual 292, 3) := by decide +kernel
theorem dX12_bytes_89 : decode cX12_bytes 89 = .ok (.iload 6, 2) := by decide +kernel
theorem dX12_bytes_91 : decode cX12_bytes 91 = .ok (.istore 8, 2) := by decide +kernel
theorem dX12_bytes_93 : decode cX12_bytes 93 = .ok (.iload 8, 2) := by decide +kernel
theorem dX12_bytes_95 : decode cX12_bytes 95 = .ok (.iload 7, 2) := by decide +kernel
theorem dX12_bytes_97 : decode cX12_bytes 97 = .ok (.if_icmp .gt 17, 3) := by decide +kernel
theorem dX12_bytes_100 : decode cX12_bytes 100 = .ok (.aload_n 0, 1) := by decide +kernel
theorem dX12_bytes_101 : decode cX12_bytes 101 = .ok (.iload 5, 2) := by decide +kernel
theorem dX12_bytes_103 : decode cX12_bytes 103 = .ok (.iload 8, 2) := by decide +kernel
theorem dX12_bytes_105 : decode cX12_bytes 105 = .ok (.invokevirtual 314, 3) := by decide +kernel
theorem dX12_bytes_108 : decode cX12_bytes 108 = .ok (.iinc 8 1, 3) := by decide +kernel
theorem dX12_bytes_111 : decode cX12_bytes 111 = .ok (.goto (-18), 3) := by decide +kernel
theorem dX12_bytes_114 : decode cX12_bytes 114 = .ok (.iconst 0, 1) := by decide +kernel
theorem dX12_bytes_115 : decode cX12_bytes 115 = .ok (.istore 8, 2) := by decide +kernel
theorem dX12_bytes_117 : decode cX12_bytes 117 = .ok (.iload 8, 2) := by decide +kernel
theorem dX12_bytes_119 : decode cX12_bytes 119 = .ok (.iload_n 3, 1) := by decide +kernel
theorem dX12_bytes_120 : decode cX12_bytes 120 = .ok (.if_icmp .ge 73, 3) := by decide +kernel
theorem dX12_bytes_123 : decode cX12_bytes 123 = .ok (.aload_n 0, 1) := by decide +kernel
theorem dX12_bytes_124 : decode cX12_bytes 124 = .ok (.iload 5, 2) := by decide +kernel
theorem dX12_bytes_126 : decode cX12_bytes 126 = .ok (.iload_n 2, 1) := by decide +kernel
theorem dX12_bytes_127 : decode cX12_bytes 127 = .ok (.iload 8, 2) := by decide +kernel
theorem dX12_bytes_129 : decode cX12_bytes 129 = .ok (.iadd, 1) := by decide +kernel
theorem dX12_bytes_130 : decode cX12_bytes 130 = .ok (.sipush 256, 3) := by decide +kernel
theorem dX12_bytes_133 : decode cX12_bytes 133 = .ok (.idiv, 1) := by decide +kernel
theorem dX12_bytes_134 : decode cX12_bytes 134 = .ok (.invokevirtual 259, 3) := by decide +kernel
theorem dX12_bytes_137 : decode cX12_bytes 137 = .ok (.iconst 1, 1) := by decide +kernel
theorem dX12_bytes_138 : decode cX12_bytes 138 = .ok (.isub, 1) := by decide +kernel
theorem dX12_bytes_139 : decode cX12_bytes 139 = .ok (.istore 9, 2) := by decide +kernel
theorem dX12_bytes_141 : decode cX12_bytes 141 = .ok (.aload_n 0, 1) := by decide +kernel
theorem dX12_bytes_142 : decode cX12_bytes 142 = .ok (.getfield 102, 3) := by decide +kernel
theorem dX12_bytes_145 : decode cX12_bytes 145 = .ok (.sipush 256, 3) := by decide +kernel
theorem dX12_bytes_148 : decode cX12_bytes 148 = .ok (.iload 9, 2) := by decide +kernel
theorem dX12_bytes_150 : decode cX12_bytes 150 = .ok (.imul, 1) := by decide +kernel
theorem dX12_bytes_151 : decode cX12_bytes 151 = .ok (.iload_n 2, 1) := by decide +kernel
theorem dX12_bytes_152 : decode cX12_bytes 152 = .ok (.iload 8, 2) := by decide +kernel
theorem dX12_bytes_154 : decode cX12_bytes 154 = .ok (.iadd, 1) := by decide +kernel
theorem dX12_bytes_155 : decode cX12_bytes 155 = .ok (.sipush 256, 3) := by decide +kernel
theorem dX12_bytes_158 : decode cX12_bytes 158 = .ok (.irem, 1) := by decide +kernel
theorem dX12_bytes_159 : decode cX12_bytes 159 = .ok (.iadd, 1) := by decide +kernel
theorem dX12_bytes_160 : decode cX12_bytes 160 = .ok (.iload 4, 2) := by decide +kernel
theorem dX12_bytes_162 : decode cX12_bytes 162 = .ok (.ifCond .ge 13, 3) := by decide +kernel
theorem dX12_bytes_165 : decode cX12_bytes 165 = .ok (.aload_n 0, 1) := by decide +kernel
theorem dX12_bytes_166 : decode cX12_bytes 166 = .ok (.getfield 391, 3) := by decide +kernel
theorem dX12_bytes_169 : decode cX12_bytes 169 = .ok (.iload 8, 2) := by decide +kernel
theorem dX12_bytes_171 : decode cX12_bytes 171 = .ok (.baload, 1) := by decide +kernel
theorem dX12_bytes_172 : decode cX12_bytes 172 = .ok (.goto 6, 3) := by decide +kernel
theorem dX12_bytes_175 : decode cX12_bytes 175 = .ok (.iload 4, 2) := by decide +kernel
theorem dX12_bytes_177 : decode cX12_bytes 177 = .ok (.i2b, 1) := by decide +kernel
theorem dX12_bytes_178 : decode cX12_bytes 178 = .ok (.bastore, 1) := by decide +kernel
theorem dX12_bytes_179 : decode cX12_bytes 179 = .ok (.aload_n 0, 1) := by decide +kernel
theorem dX12_bytes_180 : decode cX12_bytes 180 = .ok (.getfield 244, 3) := by decide +kernel
theorem dX12_bytes_183 : decode cX12_bytes 183 = .ok (.iload 9, 2) := by decide +kernel
theorem dX12_bytes_185 : decode cX12_bytes 185 = .ok (.iconst 1, 1) := by decide +kernel
theorem dX12_bytes_186 : decode cX12_bytes 186 = .ok (.bastore, 1) := by decide +kernel
theorem dX12_bytes_187 : decode cX12_bytes 187 = .ok (.iinc 8 1, 3) := by decide +kernel
theorem dX12_bytes_190 : decode cX12_bytes 190 = .ok (.goto (-73), 3) := by decide +kernel
theorem dX12_bytes_193 : decode cX12_bytes 193 = .ok (.iload_n 3, 1) := by decide +kernel
theorem dX12_bytes_194 : decode cX12_bytes 194 = .ok (.ireturn, 1) := by decide +kernel
def J_X12_bytes_178 (b0 fu : Nat) (rc117 : Nat → Int32 → Int32 → Int32 → Int32 → Int32 → tM → Option ((Int32) × tM)) (x0 : Nat) (x2 : Int32) (x3 : Int32) (x4 : Int32) (x5 : Int32) (x8 : Int32) (x9 : Int32) (s0 : Nat) (s1 : Int32) (s2 : Int32) (σ : tM) : Option ((Int32) × tM) := ckR b0 (σ) (s0) 1 (fun n44 => ckI (s1) (n44) (ckO b0 (sI (σ) (s0) ((s1).toNatClampNeg) (vp_nar .byte (s2))) (x0) 11 (osm (tA (sI (σ) (s0) ((s1).toNatClampNeg) (vp_nar .byte (s2))) (x0) 23) (fun a48 => ckR b0 (sI (σ) (s0) ((s1).toNatClampNeg) (vp_nar .byte (s2))) (a48) 2 (fun n52 => ckI (x9) (n52) (ltb ((x8) + Int32.ofInt 1) (fun y54 => rc117 (x0) (x2) (x3) (x4) (x5) (y54) (sI (sI (σ) (s0) ((s1).toNatClampNeg) (vp_nar .byte (s2))) (a48) ((x9).toNatClampNeg) (vp_nar .boolean ((1 : Int32)))))))))))
def L_X12_bytes_117 (b0 fu : Nat)  : Nat → Nat → Int32 → Int32 → Int32 → Int32 → Int32 → tM → Option ((Int32) × tM)
  | 0, _, _, _, _, _, _, _ => none
  | n + 1, x0, x2, x3, x4, x5, x8, σ => ltb (L_X12_bytes_117 b0 fu  n) (fun rc117 => if (x3) ≤ (x8) then some (x3, σ) else ckO b0 (σ) (x0) 11 (cll (m_X12_has b0 fu (x0) (x5) (((x2) + (x8)) / (256)) (σ)) (fun v33 ρ34 => ltb (((v33) - (1) : Int32)) (fun y36 => ckO b0 (ρ34) (x0) 11 (osm (tA (ρ34) (x0) 22) (fun a39 => if (0) ≤ (x4) then J_X12_bytes_178 b0 fu rc117  (x0) (x2) (x3) (x4) (x5) (x8) (y36) (a39) (((256) * (y36)) + (((x2) + (x8)) - ((x2) + (x8)) / (256) * (256))) ((x4).toInt8.toInt32) (ρ34) else osm (tA (ρ34) (x0) 56) (fun a55 => ckR b0 (ρ34) (a55) 1 (fun n59 => ckI (x8) (n59) (J_X12_bytes_178 b0 fu rc117  (x0) (x2) (x3) (x4) (x5) (x8) (y36) (a39) (((256) * (y36)) + (((x2) + (x8)) - ((x2) + (x8)) / (256) * (256))) (tI (ρ34) (a55) ((x8).toNatClampNeg)) (ρ34))))))))))
def L_X12_bytes_93 (b0 fu : Nat)  : Nat → Nat → Int32 → Int32 → Int32 → Int32 → Int32 → Int32 → tM → Option ((Int32) × tM)
  | 0, _, _, _, _, _, _, _, _ => none
  | n + 1, x0, x2, x3, x4, x5, x7, x8, σ => ltb (L_X12_bytes_93 b0 fu  n) (fun rc93 => if (x7) < (x8) then L_X12_bytes_117 b0 fu  (fu) (x0) (x2) (x3) (x4) (x5) (0) (σ) else ckO b0 (σ) (x0) 11 (cll (m_X12_ensure b0 fu (x0) (x5) (x8) (σ)) (fun v65 ρ66 => ltb ((x8) + Int32.ofInt 1) (fun y68 => rc93 (x0) (x2) (x3) (x4) (x5) (x7) (y68) (ρ66)))))
def J_X12_bytes_89 (b0 fu : Nat)  (x0 : Nat) (x2 : Int32) (x3 : Int32) (x4 : Int32) (x5 : Int32) (x6 : Int32) (x7 : Int32) (σ : tM) : Option ((Int32) × tM) := L_X12_bytes_93 b0 fu  (fu) (x0) (x2) (x3) (x4) (x5) (x7) (x6) (σ)
def m_X12_bytes (b0 fu : Nat) (a0 : Nat) (p0 : Int32) (p1 : Int32) (p2 : Int32) (p3 : Int32) (σ : tM) : Option ((Int32) × tM) := grw σ (if (lg_cmp (((p1).toInt64) + ((p2).toInt64)) (272384)) ≤ (0) then if (p2) = (0) then some (0, σ) else ckO b0 (σ) (a0) 11 (osm (tA (σ) (a0) 58) (fun a5 => ckR b0 (σ) (a5) 0 (fun n9 => ckI (p0) (n9) (ltb ((tI (σ) (a5) ((p0).toNatClampNeg) : Int32)) (fun y11 => ltb (((p1) / (256) : Int32)) (fun y12 => ltb (((((p1) + (p2)) - (1)) / (256) : Int32)) (fun y13 => cll (m_X12_needs b0 fu (a0) (y11) (y12) (y13) (σ)) (fun v14 ρ15 => ckO b0 (ρ15) (a0) 11 (cll (m_X12_freeBlocks b0 fu (a0) (ρ15)) (fun v19 ρ20 => if (v14) ≤ (v19) then ckO b0 (ρ20) (a0) 11 (cll (m_X12_node b0 fu (a0) (y11) (1) (ρ20)) (fun v25 ρ26 => if ((p1) + (p2)) ≤ (v25) then J_X12_bytes_89 b0 fu   (a0) (p1) (p2) (p3) (y11) (y12) (y13) (ρ26) else ckO b0 (ρ26) (a0) 11 (cll (m_X12_setSize b0 fu (a0) (y11) ((p1) + (p2)) (ρ26)) (fun v71 ρ72 => J_X12_bytes_89 b0 fu   (a0) (p1) (p2) (p3) (y11) (y12) (y13) (ρ72))))) else some ((-6), ρ20))))))))))) else some ((-7), σ))
set_option maxRecDepth 100000 in
set_option maxHeartbeats 1000000 in
theorem j_X12_bytes_178 {p : Program} {l : Launch} {e : Env} {s : State} {m : MethodId} {args : Array Value} {below : List Frame} {meth : Method} {c : Code} {D : va_G} {aC : Nat → ClassId} {b0 fu : Nat} {σ0 τ : tM} {v : Int32} {rc117 : Nat → Int32 → Int32 → Int32 → Int32 → Int32 → tM → Option ((Int32) × tM)} (C : tCx p l s m args meth c yX12_bytes.cls cX12_bytes 10 (some .int) D aC b0 σ0) (htab : ∀ x ∈ c.exceptionTable.toList, False) (hin : meth.name = yX12_bytes.name) (hrc117 : ∀ (x0 : Nat) (x2 : Int32) (x3 : Int32) (x4 : Int32) (x5 : Int32) (x8 : Int32) (ρ : tM), rc117 x0 x2 x3 x4 x5 x8 ρ = some (v, τ) → tX p l e s m args below meth c 10 6 145 D aC b0 σ0 (.inl (some (.int v))) τ 117 [(0, .ref (x0)), (2, .int (x2)), (3, .int (x3)), (4, .int (x4)), (5, .int (x5)), (8, .int (x8))] [] ρ) {x0 : Nat} {x2 : Int32} {x3 : Int32} {x4 : Int32} {x5 : Int32} {x8 : Int32} {x9 : Int32} {s0 : Nat} {s1 : Int32} {s2 : Int32} {σ : tM} (hm : J_X12_bytes_178 b0 fu rc117 x0 x2 x3 x4 x5 x8 x9 s0 s1 s2 σ = some (v, τ)) : tX p l e s m args below meth c 10 6 145 D aC b0 σ0 (.inl (some (.int v))) τ 178 [(0, .ref (x0)), (2, .int (x2)), (3, .int (x3)), (4, .int (x4)), (5, .int (x5)), (8, .int (x8)), (9, .int (x9))] [.int (s2), .int (s1), .ref (s0)] σ := by
  unfold J_X12_bytes_178 at hm
  obtain ⟨n44, k42, i43, hm⟩ := ckR_e hm
  obtain ⟨h45, hm⟩ := ckI_e hm
  refine zx_bast C k42 i43 h45 dX12_bytes_178 ?_
  refine zx_aload_n C dX12_bytes_179 0 rfl ?_
  obtain ⟨k46, i47, hm⟩ := ckO_e hm
  obtain ⟨a48, h49, hm⟩ := osm_e hm
  refine zx_get (j := 23) C tC_11 k46 i47 ⟨by decide, Or.inl W_7_2⟩ dX12_bytes_180 (.ref a48) (rf_s h49) ?_
  refine zx_iload C dX12_bytes_183 6 rfl ?_
  refine zx_iconst (v := 1) C dX12_bytes_185 (by decide) ?_
  obtain ⟨n52, k50, i51, hm⟩ := ckR_e hm
  obtain ⟨h53, hm⟩ := ckI_e hm
  refine zx_zast C k50 i51 h53 dX12_bytes_186 ?_
  obtain ⟨y54, hy54⟩ : ∃ z : Int32, z = (x8) + Int32.ofInt 1 := ⟨_, rfl⟩
  replace hm := ltb_e hm hy54
  refine zx_iinc C [(8, .int (y54)), (0, .ref (x0)), (2, .int (x2)), (3, .int (x3)), (4, .int (x4)), (5, .int (x5)), (9, .int (x9))] dX12_bytes_187 5 rfl hy54.symm (by decide) rfl ?_
  refine zx_goto C 117 dX12_bytes_190 (by decide) ?_
  exact zx_lv [1, 2, 3, 4, 5, 0] [(0, .ref (x0)), (2, .int (x2)), (3, .int (x3)), (4, .int (x4)), (5, .int (x5)), (8, .int (y54))] rfl (hrc117 _ _ _ _ _ _ _ hm)
set_option maxRecDepth 100000 in
set_option maxHeartbeats 1000000 in
theorem l_X12_bytes_117 {p : Program} {l : Launch} {e : Env} {s : State} {m : MethodId} {args : Array Value} {below : List Frame} {meth : Method} {c : Code} {D : va_G} {aC : Nat → ClassId} {b0 fu : Nat} {σ0 τ : tM} {v : Int32}  (C : tCx p l s m args meth c yX12_bytes.cls cX12_bytes 10 (some .int) D aC b0 σ0) (htab : ∀ x ∈ c.exceptionTable.toList, False) (hin : meth.name = yX12_bytes.name)  : ∀ (n : Nat) (x0 : Nat) (x2 : Int32) (x3 : Int32) (x4 : Int32) (x5 : Int32) (x8 : Int32) (σ : tM), L_X12_bytes_117 b0 fu  n x0 x2 x3 x4 x5 x8 σ = some (v, τ) → tX p l e s m args below meth c 10 6 145 D aC b0 σ0 (.inl (some (.int v))) τ 117 [(0, .ref (x0)), (2, .int (x2)), (3, .int (x3)), (4, .int (x4)), (5, .int (x5)), (8, .int (x8))] [] σ := by
  intro n
  induction n with
  | zero => intro x0 x2 x3 x4 x5 x8 σ hm; unfold L_X12_bytes_117 at hm; cases hm
  | succ n ih =>
    intro x0 x2 x3 x4 x5 x8 σ hm
    unfold L_X12_bytes_117 at hm
    obtain ⟨rc117, hrc⟩ : ∃ z, z = L_X12_bytes_117 b0 fu  n := ⟨_, rfl⟩
    replace hm := ltb_e hm hrc
    rw [← hrc] at ih
    have hrc117 := ih
    clear ih hrc
    refine zx_iload C dX12_bytes_117 5 rfl ?_
    refine zx_iload_n C dX12_bytes_119 2 rfl ?_
    refine zx_icmp_ge C 193 dX12_bytes_120 (by decide) (fun c30 => ?_) (fun c30 => ?_)
    · replace hm := ip_e hm c30
      refine zx_iload_n C dX12_bytes_193 2 rfl ?_
      obtain ⟨rfl, rfl⟩ := ret_e hm
      exact zx_iret C rfl rfl rfl dX12_bytes_194
    · replace hm := in_e hm c30
      refine zx_aload_n C dX12_bytes_123 0 rfl ?_
      refine zx_iload C dX12_bytes_124 4 rfl ?_
      refine zx_iload_n C dX12_bytes_126 1 rfl ?_
      refine zx_iload C dX12_bytes_127 5 rfl ?_
      refine zx_iadd C dX12_bytes_129 ?_
      refine zx_sipush (v := 256) C dX12_bytes_130 (by decide) ?_
      refine zx_idiv C dX12_bytes_133 (by decide) ?_
      obtain ⟨k31, i32, hm⟩ := ckO_e hm
      obtain ⟨v33, ρ34, h35, hm⟩ := cll_e hm
      refine zx_callV (σ := σ) C [.int (x5), .int (((x2) + (x8)) / (256))] tC_11 k31 i32 Y_X12_has W_8_60 W_8_62 Wp_85 (c_X12_has h35) (by decide) (by decide) rfl (Nat.le_of_ble_eq_true rfl) dX12_bytes_134 rfl ?_
      refine zx_iconst (v := 1) C dX12_bytes_137 (by decide) ?_
      refine zx_isub C dX12_bytes_138 ?_
      refine zx_topi (fun y36 hy36 => ?_)
      replace hm := ltb_e hm hy36
      refine zx_istore C [(9, .int (y36)), (0, .ref (x0)), (2, .int (x2)), (3, .int (x3)), (4, .int (x4)), (5, .int (x5)), (8, .int (x8))] dX12_bytes_139 (by decide) rfl ?_
      refine zx_aload_n C dX12_bytes_141 1 rfl ?_
      obtain ⟨k37, i38, hm⟩ := ckO_e hm
      obtain ⟨a39, h40, hm⟩ := osm_e hm
      refine zx_get (j := 22) C tC_11 k37 i38 ⟨by decide, Or.inl W_7_1⟩ dX12_bytes_142 (.ref a39) (rf_s h40) ?_
      refine zx_sipush (v := 256) C dX12_bytes_145 (by decide) ?_
      refine zx_iload C dX12_bytes_148 0 rfl ?_
      refine zx_imul C dX12_bytes_150 ?_
      refine zx_iload_n C dX12_bytes_151 2 rfl ?_
      refine zx_iload C dX12_bytes_152 6 rfl ?_
      refine zx_iadd C dX12_bytes_154 ?_
      refine zx_sipush (v := 256) C dX12_bytes_155 (by decide) ?_
      refine zx_irem C dX12_bytes_158 (by decide) ?_
      refine zx_iadd C dX12_bytes_159 ?_
      refine zx_iload C dX12_bytes_160 4 rfl ?_
      refine zx_if_ge C 175 dX12_bytes_162 (by decide) (fun c41 => ?_) (fun c41 => ?_)
      · replace hm := ip_e hm c41
        refine zx_iload C dX12_bytes_175 4 rfl ?_
        refine zx_i2b C dX12_bytes_177 ?_
        exact zx_lv [1, 2, 3, 4, 5, 6, 0] [(0, .ref (x0)), (2, .int (x2)), (3, .int (x3)), (4, .int (x4)), (5, .int (x5)), (8, .int (x8)), (9, .int (y36))] rfl (j_X12_bytes_178 C htab hin hrc117   hm)
      · replace hm := in_e hm c41
        refine zx_aload_n C dX12_bytes_165 1 rfl ?_
        obtain ⟨a55, h56, hm⟩ := osm_e hm
        refine zx_get (j := 56) C tC_11 k37 i38 ⟨by decide, Or.inl W_7_35⟩ dX12_bytes_166 (.ref a55) (rf_s h56) ?_
        refine zx_iload C dX12_bytes_169 6 rfl ?_
        obtain ⟨n59, k57, i58, hm⟩ := ckR_e hm
        obtain ⟨h60, hm⟩ := ckI_e hm
        refine zx_bald C k57 i58 h60 dX12_bytes_171 ?_
        refine zx_goto C 178 dX12_bytes_172 (by decide) ?_
        exact zx_lv [1, 2, 3, 4, 5, 6, 0] [(0, .ref (x0)), (2, .int (x2)), (3, .int (x3)), (4, .int (x4)), (5, .int (x5)), (8, .int (x8)), (9, .int (y36))] rfl (j_X12_bytes_178 C htab hin hrc117   hm)
set_option maxRecDepth 100000 in
set_option maxHeartbeats 1000000 in
theorem l_X12_bytes_93 {p : Program} {l : Launch} {e : Env} {s : State} {m : MethodId} {args : Array Value} {below : List Frame} {meth : Method} {c : Code} {D : va_G} {aC : Nat → ClassId} {b0 fu : Nat} {σ0 τ : tM} {v : Int32}  (C : tCx p l s m args meth c yX12_bytes.cls cX12_bytes 10 (some .int) D aC b0 σ0) (htab : ∀ x ∈ c.exceptionTable.toList, False) (hin : meth.name = yX12_bytes.name)  : ∀ (n : Nat) (x0 : Nat) (x2 : Int32) (x3 : Int32) (x4 : Int32) (x5 : Int32) (x7 : Int32) (x8 : Int32) (σ : tM), L_X12_bytes_93 b0 fu  n x0 x2 x3 x4 x5 x7 x8 σ = some (v, τ) → tX p l e s m args below meth c 10 6 145 D aC b0 σ0 (.inl (some (.int v))) τ 93 [(0, .ref (x0)), (2, .int (x2)), (3, .int (x3)), (4, .int (x4)), (5, .int (x5)), (7, .int (x7)), (8, .int (x8))] [] σ := by
  intro n
  induction n with
  | zero => intro x0 x2 x3 x4 x5 x7 x8 σ hm; unfold L_X12_bytes_93 at hm; cases hm
  | succ n ih =>
    intro x0 x2 x3 x4 x5 x7 x8 σ hm
    unfold L_X12_bytes_93 at hm
    obtain ⟨rc93, hrc⟩ : ∃ z, z = L_X12_bytes_93 b0 fu  n := ⟨_, rfl⟩
    replace hm := ltb_e hm hrc
    rw [← hrc] at ih
    have hrc93 := ih
    clear ih hrc
    refine zx_iload C dX12_bytes_93 6 rfl ?_
    refine zx_iload C dX12_bytes_95 5 rfl ?_
    refine zx_icmp_gt C 114 dX12_bytes_97 (by decide) (fun c29 => ?_) (fun c29 => ?_)
    · replace hm := ip_e hm c29
      refine zx_iconst (v := 0) C dX12_bytes_114 (by decide) ?_
      refine zx_istore C [(8, .int (0)), (0, .ref (x0)), (2, .int (x2)), (3, .int (x3)), (4, .int (x4)), (5, .int (x5)), (7, .int (x7))] dX12_bytes_115 (by decide) rfl ?_
      exact zx_lv [1, 2, 3, 4, 5, 0] [(0, .ref (x0)), (2, .int (x2)), (3, .int (x3)), (4, .int (x4)), (5, .int (x5)), (8, .int (0))] rfl (l_X12_bytes_117 C htab hin  _ _ _ _ _ _ _ _ hm)
    · replace hm := in_e hm c29
      refine zx_aload_n C dX12_bytes_100 0 rfl ?_
      refine zx_iload C dX12_bytes_101 4 rfl ?_
      refine zx_iload C dX12_bytes_103 6 rfl ?_
      obtain ⟨k63, i64, hm⟩ := ckO_e hm
      obtain ⟨v65, ρ66, h67, hm⟩ := cll_e hm
      refine zx_callV (σ := σ) C [.int (x5), .int (x8)] tC_11 k63 i64 Y_X12_ensure W_8_115 W_8_117 Wp_98 (c_X12_ensure h67) (by decide) (by decide) rfl (Nat.le_of_ble_eq_true rfl) dX12_bytes_105 rfl ?_
      obtain ⟨y68, hy68⟩ : ∃ z : Int32, z = (x8) + Int32.ofInt 1 := ⟨_, rfl⟩
      replace hm := ltb_e hm hy68
      refine zx_iinc C [(8, .int (y68)), (0, .ref (x0)), (2, .int (x2)), (3, .int (x3)), (4, .int (x4)), (5, .int (x5)), (7, .int (x7))] dX12_bytes_108 6 rfl hy68.symm (by decide) rfl ?_
      refine zx_goto C 93 dX12_bytes_111 (by decide) ?_
      exact zx_lv [1, 2, 3, 4, 5, 6, 0] [(0, .ref (x0)), (2, .int (x2)), (3, .int (x3)), (4, .int (x4)), (5, .int (x5)), (7, .int (x7)), (8, .int (y68))] rfl (hrc93 _ _ _ _ _ _ _ _ hm)
set_option maxRecDepth 100000 in
set_option maxHeartbeats 1000000 in
theorem j_X12_bytes_89 {p : Program} {l : Launch} {e : Env} {s : State} {m : MethodId} {args : Array Value} {below : List Frame} {meth : Method} {c : Code} {D : va_G} {aC : Nat → ClassId} {b0 fu : Nat} {σ0 τ : tM} {v : Int32}  (C : tCx p l s m args meth c yX12_bytes.cls cX12_bytes 10 (some .int) D aC b0 σ0) (htab : ∀ x ∈ c.exceptionTable.toList, False) (hin : meth.name = yX12_bytes.name)  {x0 : Nat} {x2 : Int32} {x3 : Int32} {x4 : Int32} {x5 : Int32} {x6 : Int32} {x7 : Int32} {σ : tM} (hm : J_X12_bytes_89 b0 fu  x0 x2 x3 x4 x5 x6 x7 σ = some (v, τ)) : tX p l e s m args below meth c 10 6 145 D aC b0 σ0 (.inl (some (.int v))) τ 89 [(0, .ref (x0)), (2, .int (x2)), (3, .int (x3)), (4, .int (x4)), (5, .int (x5)), (6, .int (x6)), (7, .int (x7))] [] σ := by
  unfold J_X12_bytes_89 at hm
  refine zx_iload C dX12_bytes_89 5 rfl ?_
  refine zx_istore C [(8, .int (x6)), (0, .ref (x0)), (2, .int (x2)), (3, .int (x3)), (4, .int (x4)), (5, .int (x5)), (6, .int (x6)), (7, .int (x7))] dX12_bytes_91 (by decide) rfl ?_
  exact zx_lv [1, 2, 3, 4, 5, 7, 0] [(0, .ref (x0)), (2, .int (x2)), (3, .int (x3)), (4, .int (x4)), (5, .int (x5)), (7, .int (x7)), (8, .int (x6))] rfl (l_X12_bytes_93 C htab hin  _ _ _ _ _ _ _ _ _ hm)
set_option maxRecDepth 100000 in
set_option maxHeartbeats 1000000 in
theorem c_X12_bytes {l : Launch} {D : va_G} {aC : Nat → ClassId} {b0 fu : Nat} {a0 : Nat} {p0 : Int32} {p1 : Int32} {p2 : Int32} {p3 : Int32} {σ τ : tM} {v : Int32} (hm : m_X12_bytes b0 fu a0 p0 p1 p2 p3 σ = some (v, τ)) : tMt l D aC b0 yX12_bytes (Cond.code yX12_bytes cX12_bytes 10 (some .int)) 6 145 [.ref (a0), .int (p0), .int (p1), .int (p2), .int (p3)] σ (.inl (some (.int v))) τ := by
  unfold m_X12_bytes at hm
  obtain ⟨hg, hm⟩ := grw_e hm
  refine tMt_of (n := 0) rfl (Nat.le_of_ble_eq_true rfl) hg ?_
  intro p e s m below meth c C htab hin
  refine zx_lv [0, 1, 2, 3, 4] [(0, .ref (a0)), (1, .int (p0)), (2, .int (p1)), (3, .int (p2)), (4, .int (p3))] rfl ?_
  refine zx_iload_n C dX12_bytes_0 2 rfl ?_
  refine zx_i2l C dX12_bytes_1 ?_
  refine zx_iload_n C dX12_bytes_2 3 rfl ?_
  refine zx_i2l C dX12_bytes_3 ?_
  refine zx_ladd C dX12_bytes_4 ?_
  refine zx_ldc2 (v := 272384) C W_8_233 dX12_bytes_5 ?_
  refine zx_lcmp C dX12_bytes_8 ?_
  refine zx_if_le C 15 dX12_bytes_9 (by decide) (fun c1 => ?_) (fun c1 => ?_)
  · replace hm := ip_e hm c1
    refine zx_iload_n C dX12_bytes_15 3 rfl ?_
    refine zx_if_ne C 21 dX12_bytes_16 (by decide) (fun c2 => ?_) (fun c2 => ?_)
    · replace hm := in_e hm c2
      refine zx_aload_n C dX12_bytes_21 0 rfl ?_
      obtain ⟨k3, i4, hm⟩ := ckO_e hm
      obtain ⟨a5, h6, hm⟩ := osm_e hm
      refine zx_get (j := 58) C tC_11 k3 i4 ⟨by decide, Or.inl W_7_37⟩ dX12_bytes_22 (.ref a5) (rf_s h6) ?_
      refine zx_iload_n C dX12_bytes_25 1 rfl ?_
      obtain ⟨n9, k7, i8, hm⟩ := ckR_e hm
      obtain ⟨h10, hm⟩ := ckI_e hm
      refine zx_iald C k7 i8 h10 dX12_bytes_26 ?_
      refine zx_topi (fun y11 hy11 => ?_)
      replace hm := ltb_e hm hy11
      refine zx_istore C [(5, .int (y11)), (0, .ref (a0)), (1, .int (p0)), (2, .int (p1)), (3, .int (p2)), (4, .int (p3))] dX12_bytes_27 (by decide) rfl ?_
      refine zx_iload_n C dX12_bytes_29 3 rfl ?_
      refine zx_sipush (v := 256) C dX12_bytes_30 (by decide) ?_
      refine zx_idiv C dX12_bytes_33 (by decide) ?_
      refine zx_topi (fun y12 hy12 => ?_)
      replace hm := ltb_e hm hy12
      refine zx_istore C [(6, .int (y12)), (5, .int (y11)), (0, .ref (a0)), (1, .int (p0)), (2, .int (p1)), (3, .int (p2)), (4, .int (p3))] dX12_bytes_34 (by decide) rfl ?_
      refine zx_iload_n C dX12_bytes_36 4 rfl ?_
      refine zx_iload_n C dX12_bytes_37 5 rfl ?_
      refine zx_iadd C dX12_bytes_38 ?_
      refine zx_iconst (v := 1) C dX12_bytes_39 (by decide) ?_
      refine zx_isub C dX12_bytes_40 ?_
      refine zx_sipush (v := 256) C dX12_bytes_41 (by decide) ?_
      refine zx_idiv C dX12_bytes_44 (by decide) ?_
      refine zx_topi (fun y13 hy13 => ?_)
      replace hm := ltb_e hm hy13
      refine zx_istore C [(7, .int (y13)), (6, .int (y12)), (5, .int (y11)), (0, .ref (a0)), (1, .int (p0)), (2, .int (p1)), (3, .int (p2)), (4, .int (p3))] dX12_bytes_45 (by decide) rfl ?_
      refine zx_aload_n C dX12_bytes_47 3 rfl ?_
      refine zx_iload C dX12_bytes_48 2 rfl ?_
      refine zx_iload C dX12_bytes_50 1 rfl ?_
      refine zx_iload C dX12_bytes_52 0 rfl ?_
      obtain ⟨v14, ρ15, h16, hm⟩ := cll_e hm
      refine zx_callV (σ := σ) C [.int (y11), .int (y12), .int (y13)] tC_11 k3 i4 Y_X12_needs W_8_87 W_8_89 Wp_91 (c_X12_needs h16) (by decide) (by decide) rfl (Nat.le_of_ble_eq_true rfl) dX12_bytes_54 rfl ?_
      refine zx_aload_n C dX12_bytes_57 3 rfl ?_
      obtain ⟨k17, i18, hm⟩ := ckO_e hm
      obtain ⟨v19, ρ20, h21, hm⟩ := cll_e hm
      refine zx_callV (σ := ρ15) C [] tC_11 k17 i18 Y_X12_freeBlocks W_8_91 W_8_93 Wp_92 (c_X12_freeBlocks h21) (by decide) (by decide) rfl (Nat.le_of_ble_eq_true rfl) dX12_bytes_58 rfl ?_
      refine zx_icmp_le C 67 dX12_bytes_61 (by decide) (fun c22 => ?_) (fun c22 => ?_)
      · replace hm := ip_e hm c22
        refine zx_iload_n C dX12_bytes_67 5 rfl ?_
        refine zx_iload_n C dX12_bytes_68 6 rfl ?_
        refine zx_iadd C dX12_bytes_69 ?_
        refine zx_aload_n C dX12_bytes_70 3 rfl ?_
        refine zx_iload C dX12_bytes_71 2 rfl ?_
        refine zx_iconst (v := 1) C dX12_bytes_73 (by decide) ?_
        obtain ⟨k23, i24, hm⟩ := ckO_e hm
        obtain ⟨v25, ρ26, h27, hm⟩ := cll_e hm
        refine zx_callV (σ := ρ20) C [.int (y11), .int (1)] tC_11 k23 i24 Y_X12_node W_8_40 W_8_42 Wp_80 (c_X12_node h27) (by decide) (by decide) rfl (Nat.le_of_ble_eq_true rfl) dX12_bytes_74 rfl ?_
        refine zx_icmp_le C 89 dX12_bytes_77 (by decide) (fun c28 => ?_) (fun c28 => ?_)
        · replace hm := ip_e hm c28
          exact zx_lv [3, 5, 6, 7, 2, 1, 0] [(0, .ref (a0)), (2, .int (p1)), (3, .int (p2)), (4, .int (p3)), (5, .int (y11)), (6, .int (y12)), (7, .int (y13))] rfl (j_X12_bytes_89 C htab hin    hm)
        · replace hm := in_e hm c28
          refine zx_aload_n C dX12_bytes_80 3 rfl ?_
          refine zx_iload C dX12_bytes_81 2 rfl ?_
          refine zx_iload_n C dX12_bytes_83 5 rfl ?_
          refine zx_iload_n C dX12_bytes_84 6 rfl ?_
          refine zx_iadd C dX12_bytes_85 ?_
          obtain ⟨k69, i70, hm⟩ := ckO_e hm
          obtain ⟨v71, ρ72, h73, hm⟩ := cll_e hm
          refine zx_callV (σ := ρ26) C [.int (y11), .int ((p1) + (p2))] tC_11 k69 i70 Y_X12_setSize W_8_191 W_8_193 Wp_113 (c_X12_setSize h73) (by decide) (by decide) rfl (Nat.le_of_ble_eq_true rfl) dX12_bytes_86 rfl ?_
          exact zx_lv [3, 5, 6, 7, 2, 1, 0] [(0, .ref (a0)), (2, .int (p1)), (3, .int (p2)), (4, .int (p3)), (5, .int (y11)), (6, .int (y12)), (7, .int (y13))] rfl (j_X12_bytes_89 C htab hin    hm)
      · replace hm := in_e hm c22
        refine zx_bipush (v := (-6)) C dX12_bytes_64 (by decide) ?_
        obtain ⟨rfl, rfl⟩ := ret_e hm
        exact zx_iret C rfl rfl rfl dX12_bytes_66
    · replace hm := ip_e hm c2
      refine zx_iconst (v := 0) C dX12_bytes_19 (by decide) ?_
      obtain ⟨rfl, rfl⟩ := ret_e hm
      exact zx_iret C rfl rfl rfl dX12_bytes_20
  · replace hm := in_e hm c1
    refine zx_bipush (v := (-7)) C dX12_bytes_12 (by decide) ?_
    obtain ⟨rfl, rfl⟩ := ret_e hm
    exact zx_iret C rfl rfl rfl dX12_bytes_14
abbrev cX12_writeDirty : ByteArray := prog_13_method_100_code
def yX12_writeDirty : MethodName := ⟨"SyncTreeModel", "writeDirty", "(II)I"⟩
theorem Y_X12_writeDirty : tY yX12_writeDirty cX12_writeDirty 6 (some .int) 2 := ⟨W_9_47, W_1_14, ⟨by decide +kernel, by decide +kernel⟩, by decide +kernel⟩
theorem dX12_writeDirty_0 : decode cX12_writeDirty 0 = .ok (.iconst 0, 1) := by decide +kernel
theorem dX12_writeDirty_1 : decode cX12_writeDirty 1 = .ok (.istore_n 3, 1) := by decide +kernel
theorem dX12_writeDirty_2 : decode cX12_writeDirty 2 = .ok (.iload_n 3, 1) := by decide +kernel
theorem dX12_writeDirty_3 : decode cX12_writeDirty 3 = .ok (.aload_n 0, 1) := by decide +kernel
theorem dX12_writeDirty_4 : decode cX12_writeDirty 4 = .ok (.getfield 41, 3) := by decide +kernel
theorem dX12_writeDirty_7 : decode cX12_writeDirty 7 = .ok (.if_icmp .ge 24, 3) := by decide +kernel
theorem dX12_writeDirty_10 : decode cX12_writeDirty 10 = .ok (.aload_n 0, 1) := by decide +kernel
theorem dX12_writeDirty_11 : decode cX12_writeDirty 11 = .ok (.getfield 394, 3) := by decide +kernel
theorem dX12_writeDirty_14 : decode cX12_writeDirty 14 = .ok (.iload_n 3, 1) := by decide +kernel
theorem dX12_writeDirty_15 : decode cX12_writeDirty 15 = .ok (.iload_n 1, 1) := by decide +kernel
theorem dX12_writeDirty_16 : decode cX12_writeDirty 16 = .ok (.ifCond .ge 7, 3) := by decide +kernel
theorem dX12_writeDirty_19 : decode cX12_writeDirty 19 = .ok (.iconst 1, 1) := by decide +kernel
theorem dX12_writeDirty_20 : decode cX12_writeDirty 20 = .ok (.goto 4, 3) := by decide +kernel
theorem dX12_writeDirty_23 : decode cX12_writeDirty 23 = .ok (.iconst 0, 1) := by decide +kernel
theorem dX12_writeDirty_24 : decode cX12_writeDirty 24 = .ok (.bastore, 1) := by decide +kernel
theorem dX12_writeDirty_25 : decode cX12_writeDirty 25 = .ok (.iinc 3 1, 3) := by decide +kernel
theorem dX12_writeDirty_28 : decode cX12_writeDirty 28 = .ok (.goto (-26), 3) := by decide +kernel
theorem dX12_writeDirty_31 : decode cX12_writeDirty 31 = .ok (.iload_n 1, 1) := by decide +kernel
theorem dX12_writeDirty_32 : decode cX12_writeDirty 32 = .ok (.ifCond .ge 7, 3) := by decide +kernel
theorem dX12_writeDirty_35 : decode cX12_writeDirty 35 = .ok (.iconst 0, 1) := by decide +kernel
theorem dX12_writeDirty_36 : decode cX12_writeDirty 36 = .ok (.goto 17, 3) := by decide +kernel
theorem dX12_writeDirty_39 : decode cX12_writeDirty 39 = .ok (.aload_n 0, 1) := by decide +kernel
theorem dX12_writeDirty_40 : decode cX12_writeDirty 40 = .ok (.iload_n 1, 1) := by decide +kernel
theorem dX12_writeDirty_41 : decode cX12_writeDirty 41 = .ok (.iconst 1, 1) := by decide +kernel
theorem dX12_writeDirty_42 : decode cX12_writeDirty 42 = .ok (.invokevirtual 247, 3) := by decide +kernel
theorem dX12_writeDirty_45 : decode cX12_writeDirty 45 = .ok (.sipush 255, 3) := by decide +kernel
theorem dX12_writeDirty_48 : decode cX12_writeDirty 48 = .ok (.iadd, 1) := by decide +kernel
theorem dX12_writeDirty_49 : decode cX12_writeDirty 49 = .ok (.sipush 256, 3) := by decide +kernel
theorem dX12_writeDirty_52 : decode cX12_writeDirty 52 = .ok (.idiv, 1) := by decide +kernel
theorem dX12_writeDirty_53 : decode cX12_writeDirty 53 = .ok (.istore_n 3, 1) := by decide +kernel
theorem dX12_writeDirty_54 : decode cX12_writeDirty 54 = .ok (.iconst 0, 1) := by decide +kernel
theorem dX12_writeDirty_55 : decode cX12_writeDirty 55 = .ok (.istore 4, 2) := by decide +kernel
theorem dX12_writeDirty_57 : decode cX12_writeDirty 57 = .ok (.iload 4, 2) := by decide +kernel
theorem dX12_writeDirty_59 : decode cX12_writeDirty 59 = .ok (.iload_n 3, 1) := by decide +kernel
theorem dX12_writeDirty_60 : decode cX12_writeDirty 60 = .ok (.if_icmp .ge 33, 3) := by decide +kernel
theorem dX12_writeDirty_63 : decode cX12_writeDirty 63 = .ok (.aload_n 0, 1) := by decide +kernel
theorem dX12_writeDirty_64 : decode cX12_writeDirty 64 = .ok (.iload_n 1, 1) := by decide +kernel
theorem dX12_writeDirty_65 : decode cX12_writeDirty 65 = .ok (.iload 4, 2) := by decide +kernel
theorem dX12_writeDirty_67 : decode cX12_writeDirty 67 = .ok (.invokevirtual 259, 3) := by decide +kernel
theorem dX12_writeDirty_70 : decode cX12_writeDirty 70 = .ok (.iconst 1, 1) := by decide +kernel
theorem dX12_writeDirty_71 : decode cX12_writeDirty 71 = .ok (.isub, 1) := by decide +kernel
theorem dX12_writeDirty_72 : decode cX12_writeDirty 72 = .ok (.istore 5, 2) := by decide +kernel
theorem dX12_writeDirty_74 : decode cX12_writeDirty 74 = .ok (.iload 5, 2) := by decide +kernel
theorem dX12_writeDirty_76 : decode cX12_writeDirty 76 = .ok (.ifCond .lt 11, 3) := by decide +kernel
theorem dX12_writeDirty_79 : decode cX12_writeDirty 79 = .ok (.aload_n 0, 1) := by decide +kernel
theorem dX12_writeDirty_80 : decode cX12_writeDirty 80 = .ok (.getfield 394, 3) := by decide +kernel
theorem dX12_writeDirty_83 : decode cX12_writeDirty 83 = .ok (.iload 5, 2) := by decide +kernel
theorem dX12_writeDirty_85 : decode cX12_writeDirty 85 = .ok (.iconst 1, 1) := by decide +kernel
theorem dX12_writeDirty_86 : decode cX12_writeDirty 86 = .ok (.bastore, 1) := by decide +kernel
theorem dX12_writeDirty_87 : decode cX12_writeDirty 87 = .ok (.iinc 4 1, 3) := by decide +kernel
theorem dX12_writeDirty_90 : decode cX12_writeDirty 90 = .ok (.goto (-33), 3) := by decide +kernel
theorem dX12_writeDirty_93 : decode cX12_writeDirty 93 = .ok (.iconst 0, 1) := by decide +kernel
theorem dX12_writeDirty_94 : decode cX12_writeDirty 94 = .ok (.istore 4, 2) := by decide +kernel
theorem dX12_writeDirty_96 : decode cX12_writeDirty 96 = .ok (.iconst 0, 1) := by decide +kernel
theorem dX12_writeDirty_97 : decode cX12_writeDirty 97 = .ok (.istore 5, 2) := by decide +kernel
theorem dX12_writeDirty_99 : decode cX12_writeDirty 99 = .ok (.iload 5, 2) := by decide +kernel
theorem dX12_writeDirty_101 : decode cX12_writeDirty 101 = .ok (.aload_n 0, 1) := by decide +kernel
theorem dX12_writeDirty_102 : decode cX12_writeDirty 102 = .ok (.getfield 41, 3) := by decide +kernel
theorem dX12_writeDirty_105 : decode cX12_writeDirty 105 = .ok (.if_icmp .ge 71, 3) := by decide +kernel
theorem dX12_writeDirty_108 : decode cX12_writeDirty 108 = .ok (.iload 4, 2) := by decide +kernel
theorem dX12_writeDirty_110 : decode cX12_writeDirty 110 = .ok (.iload_n 2, 1) := by decide +kernel
theorem dX12_writeDirty_111 : decode cX12_writeDirty 111 = .ok (.if_icmp .ge 65, 3) := by decide +kernel
theorem dX12_writeDirty_114 : decode cX12_writeDirty 114 = .ok (.aload_n 0, 1) := by decide +kernel
theorem dX12_writeDirty_115 : decode cX12_writeDirty 115 = .ok (.getfield 394, 3) := by decide +kernel
theorem dX12_writeDirty_118 : decode cX12_writeDirty 118 = .ok (.iload 5, 2) := by decide +kernel
theorem dX12_writeDirty_120 : decode cX12_writeDirty 120 = .ok (.baload, 1) := by decide +kernel
theorem dX12_writeDirty_121 : decode cX12_writeDirty 121 = .ok (.ifCond .eq 49, 3) := by decide +kernel
theorem dX12_writeDirty_124 : decode cX12_writeDirty 124 = .ok (.aload_n 0, 1) := by decide +kernel
theorem dX12_writeDirty_125 : decode cX12_writeDirty 125 = .ok (.getfield 244, 3) := by decide +kernel
theorem dX12_writeDirty_128 : decode cX12_writeDirty 128 = .ok (.iload 5, 2) := by decide +kernel
theorem dX12_writeDirty_130 : decode cX12_writeDirty 130 = .ok (.baload, 1) := by decide +kernel
theorem dX12_writeDirty_131 : decode cX12_writeDirty 131 = .ok (.ifCond .ne 6, 3) := by decide +kernel
theorem dX12_writeDirty_134 : decode cX12_writeDirty 134 = .ok (.goto 36, 3) := by decide +kernel
theorem dX12_writeDirty_137 : decode cX12_writeDirty 137 = .ok (.aload_n 0, 1) := by decide +kernel
theorem dX12_writeDirty_138 : decode cX12_writeDirty 138 = .ok (.aload_n 0, 1) := by decide +kernel
theorem dX12_writeDirty_139 : decode cX12_writeDirty 139 = .ok (.iload 5, 2) := by decide +kernel
theorem dX12_writeDirty_141 : decode cX12_writeDirty 141 = .ok (.invokevirtual 240, 3) := by decide +kernel
theorem dX12_writeDirty_144 : decode cX12_writeDirty 144 = .ok (.iconst 3, 1) := by decide +kernel
theorem dX12_writeDirty_145 : decode cX12_writeDirty 145 = .ok (.aload_n 0, 1) := by decide +kernel
theorem dX12_writeDirty_146 : decode cX12_writeDirty 146 = .ok (.getfield 13, 3) := by decide +kernel
theorem dX12_writeDirty_149 : decode cX12_writeDirty 149 = .ok (.iload 5, 2) := by decide +kernel
theorem dX12_writeDirty_151 : decode cX12_writeDirty 151 = .ok (.iconst 1, 1) := by decide +kernel
theorem dX12_writeDirty_152 : decode cX12_writeDirty 152 = .ok (.invokestatic 233, 3) := by decide +kernel
theorem dX12_writeDirty_155 : decode cX12_writeDirty 155 = .ok (.iaload, 1) := by decide +kernel
theorem dX12_writeDirty_156 : decode cX12_writeDirty 156 = .ok (.invokevirtual 183, 3) := by decide +kernel
theorem dX12_writeDirty_159 : decode cX12_writeDirty 159 = .ok (.aload_n 0, 1) := by decide +kernel
theorem dX12_writeDirty_160 : decode cX12_writeDirty 160 = .ok (.getfield 244, 3) := by decide +kernel
theorem dX12_writeDirty_163 : decode cX12_writeDirty 163 = .ok (.iload 5, 2) := by decide +kernel
theorem dX12_writeDirty_165 : decode cX12_writeDirty 165 = .ok (.iconst 0, 1) := by decide +kernel
theorem dX12_writeDirty_166 : decode cX12_writeDirty 166 = .ok (.bastore, 1) := by decide +kernel
theorem dX12_writeDirty_167 : decode cX12_writeDirty 167 = .ok (.iinc 4 1, 3) := by decide +kernel
theorem dX12_writeDirty_170 : decode cX12_writeDirty 170 = .ok (.iinc 5 1, 3) := by decide +kernel
theorem dX12_writeDirty_173 : decode cX12_writeDirty 173 = .ok (.goto (-74), 3) := by decide +kernel
theorem dX12_writeDirty_176 : decode cX12_writeDirty 176 = .ok (.iload 4, 2) := by decide +kernel
theorem dX12_writeDirty_178 : decode cX12_writeDirty 178 = .ok (.ireturn, 1) := by decide +kernel
def J_X12_writeDirty_176 (b0 fu : Nat)  (x4 : Int32) (σ : tM) : Option (((Int32) ⊕ Unit) × tM) := some (.inl (x4), σ)
def J_X12_writeDirty_170 (b0 fu : Nat) (rc99 : Nat → Int32 → Int32 → Int32 → tM → Option (((Int32) ⊕ Unit) × tM)) (x0 : Nat) (x2 : Int32) (x4 : Int32) (x5 : Int32) (σ : tM) : Option (((Int32) ⊕ Unit) × tM) := ltb ((x5) + Int32.ofInt 1) (fun y20 => rc99 (x0) (x2) (x4) (y20) (σ))
def L_X12_writeDirty_99 (b0 fu : Nat)  : Nat → Nat → Int32 → Int32 → Int32 → tM → Option (((Int32) ⊕ Unit) × tM)
  | 0, _, _, _, _, _ => none
  | n + 1, x0, x2, x4, x5, σ => ltb (L_X12_writeDirty_99 b0 fu  n) (fun rc99 => ckO b0 (σ) (x0) 11 (if (tI (σ) (x0) 7) ≤ (x5) then J_X12_writeDirty_176 b0 fu   (x4) (σ) else if (x2) ≤ (x4) then J_X12_writeDirty_176 b0 fu   (x4) (σ) else osm (tA (σ) (x0) 59) (fun a13 => ckR b0 (σ) (a13) 2 (fun n17 => ckI (x5) (n17) (if (tI (σ) (a13) ((x5).toNatClampNeg)) = (0) then J_X12_writeDirty_170 b0 fu rc99  (x0) (x2) (x4) (x5) (σ) else osm (tA (σ) (x0) 23) (fun a21 => ckR b0 (σ) (a21) 2 (fun n25 => ckI (x5) (n25) (if (tI (σ) (a21) ((x5).toNatClampNeg)) = (0) then J_X12_writeDirty_170 b0 fu rc99  (x0) (x2) (x4) (x5) (σ) else cll (m_X12_numberOf b0 fu (x0) (x5) (σ)) (fun v28 ρ29 => ckO b0 (ρ29) (x0) 11 (osm (tA (ρ29) (x0) 1) (fun a33 => cll (m_X12_room b0 fu (x5) (1) (ρ29)) (fun v35 ρ36 => ckR b0 (ρ36) (a33) 0 (fun n40 => ckI (v35) (n40) (ckO b0 (ρ36) (x0) 11 (clx (m_X12_version b0 fu (x0) (v28) (3) (tI (ρ36) (a33) ((v35).toNatClampNeg)) (ρ36)) (fun v44 ρ45 => ckO b0 (ρ45) (x0) 11 (osm (tA (ρ45) (x0) 23) (fun a49 => ckR b0 (ρ45) (a49) 2 (fun n53 => ckI (x5) (n53) (ltb ((x4) + Int32.ofInt 1) (fun y55 => J_X12_writeDirty_170 b0 fu rc99  (x0) (x2) (y55) (x5) (sI (ρ45) (a49) ((x5).toNatClampNeg) (vp_nar .boolean ((0 : Int32)))))))))))))))))))))))))
def J_X12_writeDirty_87 (b0 fu : Nat) (rc57 : Nat → Int32 → Int32 → Int32 → Int32 → tM → Option (((Int32) ⊕ Unit) × tM)) (x0 : Nat) (x1 : Int32) (x2 : Int32) (x3 : Int32) (x4 : Int32) (σ : tM) : Option (((Int32) ⊕ Unit) × tM) := ltb ((x4) + Int32.ofInt 1) (fun y64 => rc57 (x0) (x1) (x2) (x3) (y64) (σ))
def L_X12_writeDirty_57 (b0 fu : Nat)  : Nat → Nat → Int32 → Int32 → Int32 → Int32 → tM → Option (((Int32) ⊕ Unit) × tM)
  | 0, _, _, _, _, _, _ => none
  | n + 1, x0, x1, x2, x3, x4, σ => ltb (L_X12_writeDirty_57 b0 fu  n) (fun rc57 => if (x3) ≤ (x4) then L_X12_writeDirty_99 b0 fu  (fu) (x0) (x2) (0) (0) (σ) else ckO b0 (σ) (x0) 11 (cll (m_X12_has b0 fu (x0) (x1) (x4) (σ)) (fun v59 ρ60 => ltb (((v59) - (1) : Int32)) (fun y62 => if (y62) < (0) then J_X12_writeDirty_87 b0 fu rc57  (x0) (x1) (x2) (x3) (x4) (ρ60) else ckO b0 (ρ60) (x0) 11 (osm (tA (ρ60) (x0) 59) (fun a67 => ckR b0 (ρ60) (a67) 2 (fun n71 => ckI (y62) (n71) (J_X12_writeDirty_87 b0 fu rc57  (x0) (x1) (x2) (x3) (x4) (sI (ρ60) (a67) ((y62).toNatClampNeg) (vp_nar .boolean ((1 : Int32))))))))))))
def J_X12_writeDirty_53 (b0 fu : Nat)  (x0 : Nat) (x1 : Int32) (x2 : Int32) (s0 : Int32) (σ : tM) : Option (((Int32) ⊕ Unit) × tM) := L_X12_writeDirty_57 b0 fu  (fu) (x0) (x1) (x2) (s0) (0) (σ)
def J_X12_writeDirty_24 (b0 fu : Nat) (rc2 : Nat → Int32 → Int32 → Int32 → tM → Option (((Int32) ⊕ Unit) × tM)) (x0 : Nat) (x1 : Int32) (x2 : Int32) (x3 : Int32) (s0 : Nat) (s1 : Int32) (s2 : Int32) (σ : tM) : Option (((Int32) ⊕ Unit) × tM) := ckR b0 (σ) (s0) 2 (fun n79 => ckI (s1) (n79) (ltb ((x3) + Int32.ofInt 1) (fun y81 => rc2 (x0) (x1) (x2) (y81) (sI (σ) (s0) ((s1).toNatClampNeg) (vp_nar .boolean (s2))))))
def L_X12_writeDirty_2 (b0 fu : Nat)  : Nat → Nat → Int32 → Int32 → Int32 → tM → Option (((Int32) ⊕ Unit) × tM)
  | 0, _, _, _, _, _ => none
  | n + 1, x0, x1, x2, x3, σ => ltb (L_X12_writeDirty_2 b0 fu  n) (fun rc2 => ckO b0 (σ) (x0) 11 (if (tI (σ) (x0) 7) ≤ (x3) then if (0) ≤ (x1) then cll (m_X12_node b0 fu (x0) (x1) (1) (σ)) (fun v5 ρ6 => J_X12_writeDirty_53 b0 fu   (x0) (x1) (x2) (((v5) + (255)) / (256)) (ρ6)) else J_X12_writeDirty_53 b0 fu   (x0) (x1) (x2) (0) (σ) else osm (tA (σ) (x0) 59) (fun a74 => if (0) ≤ (x1) then J_X12_writeDirty_24 b0 fu rc2  (x0) (x1) (x2) (x3) (a74) (x3) (0) (σ) else J_X12_writeDirty_24 b0 fu rc2  (x0) (x1) (x2) (x3) (a74) (x3) (1) (σ))))
def m_X12_writeDirty (b0 fu : Nat) (a0 : Nat) (p0 : Int32) (p1 : Int32) (σ : tM) : Option (((Int32) ⊕ Unit) × tM) := grw σ (L_X12_writeDirty_2 b0 fu  (fu) (a0) (p0) (p1) (0) (σ))
set_option maxRecDepth 100000 in
set_option maxHeartbeats 1000000 in
theorem j_X12_writeDirty_176 {p : Program} {l : Launch} {e : Env} {s : State} {m : MethodId} {args : Array Value} {below : List Frame} {meth : Method} {c : Code} {D : va_G} {aC : Nat → ClassId} {b0 fu : Nat} {σ0 τ : tM} {v : (Int32) ⊕ Unit}  (C : tCx p l s m args meth c yX12_writeDirty.cls cX12_writeDirty 6 (some .int) D aC b0 σ0) (htab : ∀ x ∈ c.exceptionTable.toList, False) (hin : meth.name = yX12_writeDirty.name)  {x4 : Int32} {σ : tM} (hm : J_X12_writeDirty_176 b0 fu  x4 σ = some (v, τ)) : tX p l e s m args below meth c 6 4 92 D aC b0 σ0 (rxI "SyncTreeModel$Off" v) τ 176 [(4, .int (x4))] [] σ := by
  unfold J_X12_writeDirty_176 at hm
  refine zx_iload C dX12_writeDirty_176 0 rfl ?_
  obtain ⟨rfl, rfl⟩ := ret_e hm
  exact zx_iret C rfl rfl rfl dX12_writeDirty_178
set_option maxRecDepth 100000 in
set_option maxHeartbeats 1000000 in
theorem j_X12_writeDirty_170 {p : Program} {l : Launch} {e : Env} {s : State} {m : MethodId} {args : Array Value} {below : List Frame} {meth : Method} {c : Code} {D : va_G} {aC : Nat → ClassId} {b0 fu : Nat} {σ0 τ : tM} {v : (Int32) ⊕ Unit} {rc99 : Nat → Int32 → Int32 → Int32 → tM → Option (((Int32) ⊕ Unit) × tM)} (C : tCx p l s m args meth c yX12_writeDirty.cls cX12_writeDirty 6 (some .int) D aC b0 σ0) (htab : ∀ x ∈ c.exceptionTable.toList, False) (hin : meth.name = yX12_writeDirty.name) (hrc99 : ∀ (x0 : Nat) (x2 : Int32) (x4 : Int32) (x5 : Int32) (ρ : tM), rc99 x0 x2 x4 x5 ρ = some (v, τ) → tX p l e s m args below meth c 6 4 92 D aC b0 σ0 (rxI "SyncTreeModel$Off" v) τ 99 [(0, .ref (x0)), (2, .int (x2)), (4, .int (x4)), (5, .int (x5))] [] ρ) {x0 : Nat} {x2 : Int32} {x4 : Int32} {x5 : Int32} {σ : tM} (hm : J_X12_writeDirty_170 b0 fu rc99 x0 x2 x4 x5 σ = some (v, τ)) : tX p l e s m args below meth c 6 4 92 D aC b0 σ0 (rxI "SyncTreeModel$Off" v) τ 170 [(0, .ref (x0)), (2, .int (x2)), (4, .int (x4)), (5, .int (x5))] [] σ := by
  unfold J_X12_writeDirty_170 at hm
  obtain ⟨y20, hy20⟩ : ∃ z : Int32, z = (x5) + Int32.ofInt 1 := ⟨_, rfl⟩
  replace hm := ltb_e hm hy20
  refine zx_iinc C [(5, .int (y20)), (0, .ref (x0)), (2, .int (x2)), (4, .int (x4))] dX12_writeDirty_170 3 rfl hy20.symm (by decide) rfl ?_
  refine zx_goto C 99 dX12_writeDirty_173 (by decide) ?_
  exact zx_lv [1, 2, 3, 0] [(0, .ref (x0)), (2, .int (x2)), (4, .int (x4)), (5, .int (y20))] rfl (hrc99 _ _ _ _ _ hm)
set_option maxRecDepth 100000 in
set_option maxHeartbeats 1000000 in
theorem l_X12_writeDirty_99 {p : Program} {l : Launch} {e : Env} {s : State} {m : MethodId} {args : Array Value} {below : List Frame} {meth : Method} {c : Code} {D : va_G} {aC : Nat → ClassId} {b0 fu : Nat} {σ0 τ : tM} {v : (Int32) ⊕ Unit}  (C : tCx p l s m args meth c yX12_writeDirty.cls cX12_writeDirty 6 (some .int) D aC b0 σ0) (htab : ∀ x ∈ c.exceptionTable.toList, False) (hin : meth.name = yX12_writeDirty.name)  : ∀ (n : Nat) (x0 : Nat) (x2 : Int32) (x4 : Int32) (x5 : Int32) (σ : tM), L_X12_writeDirty_99 b0 fu  n x0 x2 x4 x5 σ = some (v, τ) → tX p l e s m args below meth c 6 4 92 D aC b0 σ0 (rxI "SyncTreeModel$Off" v) τ 99 [(0, .ref (x0)), (2, .int (x2)), (4, .int (x4)), (5, .int (x5))] [] σ := by
  intro n
  induction n with
  | zero => intro x0 x2 x4 x5 σ hm; unfold L_X12_writeDirty_99 at hm; cases hm
  | succ n ih =>
    intro x0 x2 x4 x5 σ hm
    unfold L_X12_writeDirty_99 at hm
    obtain ⟨rc99, hrc⟩ : ∃ z, z = L_X12_writeDirty_99 b0 fu  n := ⟨_, rfl⟩
    replace hm := ltb_e hm hrc
    rw [← hrc] at ih
    have hrc99 := ih
    clear ih hrc
    refine zx_iload C dX12_writeDirty_99 3 rfl ?_
    refine zx_aload_n C dX12_writeDirty_101 0 rfl ?_
    obtain ⟨k9, i10, hm⟩ := ckO_e hm
    refine zx_get (j := 7) C tC_11 k9 i10 ⟨by decide, Or.inl W_6_226⟩ dX12_writeDirty_102 (.int (tI (σ) (x0) 7)) rfl ?_
    refine zx_icmp_ge C 176 dX12_writeDirty_105 (by decide) (fun c11 => ?_) (fun c11 => ?_)
    · replace hm := ip_e hm c11
      exact zx_lv [2] [(4, .int (x4))] rfl (j_X12_writeDirty_176 C htab hin    hm)
    · replace hm := in_e hm c11
      refine zx_iload C dX12_writeDirty_108 2 rfl ?_
      refine zx_iload_n C dX12_writeDirty_110 1 rfl ?_
      refine zx_icmp_ge C 176 dX12_writeDirty_111 (by decide) (fun c12 => ?_) (fun c12 => ?_)
      · replace hm := ip_e hm c12
        exact zx_lv [2] [(4, .int (x4))] rfl (j_X12_writeDirty_176 C htab hin    hm)
      · replace hm := in_e hm c12
        refine zx_aload_n C dX12_writeDirty_114 0 rfl ?_
        obtain ⟨a13, h14, hm⟩ := osm_e hm
        refine zx_get (j := 59) C tC_11 k9 i10 ⟨by decide, Or.inl W_7_38⟩ dX12_writeDirty_115 (.ref a13) (rf_s h14) ?_
        refine zx_iload C dX12_writeDirty_118 3 rfl ?_
        obtain ⟨n17, k15, i16, hm⟩ := ckR_e hm
        obtain ⟨h18, hm⟩ := ckI_e hm
        refine zx_zald C k15 i16 h18 dX12_writeDirty_120 ?_
        refine zx_if_eq C 170 dX12_writeDirty_121 (by decide) (fun c19 => ?_) (fun c19 => ?_)
        · replace hm := ip_e hm c19
          exact zx_lv [0, 1, 2, 3] [(0, .ref (x0)), (2, .int (x2)), (4, .int (x4)), (5, .int (x5))] rfl (j_X12_writeDirty_170 C htab hin hrc99   hm)
        · replace hm := in_e hm c19
          refine zx_aload_n C dX12_writeDirty_124 0 rfl ?_
          obtain ⟨a21, h22, hm⟩ := osm_e hm
          refine zx_get (j := 23) C tC_11 k9 i10 ⟨by decide, Or.inl W_7_2⟩ dX12_writeDirty_125 (.ref a21) (rf_s h22) ?_
          refine zx_iload C dX12_writeDirty_128 3 rfl ?_
          obtain ⟨n25, k23, i24, hm⟩ := ckR_e hm
          obtain ⟨h26, hm⟩ := ckI_e hm
          refine zx_zald C k23 i24 h26 dX12_writeDirty_130 ?_
          refine zx_if_ne C 137 dX12_writeDirty_131 (by decide) (fun c27 => ?_) (fun c27 => ?_)
          · replace hm := in_e hm c27
            refine zx_aload_n C dX12_writeDirty_137 0 rfl ?_
            refine zx_aload_n C dX12_writeDirty_138 0 rfl ?_
            refine zx_iload C dX12_writeDirty_139 3 rfl ?_
            obtain ⟨v28, ρ29, h30, hm⟩ := cll_e hm
            refine zx_callV (σ := σ) C [.int (x5)] tC_11 k9 i10 Y_X12_numberOf W_8_123 W_8_125 Wp_100 (c_X12_numberOf h30) (by decide) (by decide) rfl (Nat.le_of_ble_eq_true rfl) dX12_writeDirty_141 rfl ?_
            refine zx_iconst (v := 3) C dX12_writeDirty_144 (by decide) ?_
            refine zx_aload_n C dX12_writeDirty_145 0 rfl ?_
            obtain ⟨k31, i32, hm⟩ := ckO_e hm
            obtain ⟨a33, h34, hm⟩ := osm_e hm
            refine zx_get (j := 1) C tC_11 k31 i32 ⟨by decide, Or.inl W_6_221⟩ dX12_writeDirty_146 (.ref a33) (rf_s h34) ?_
            refine zx_iload C dX12_writeDirty_149 3 rfl ?_
            refine zx_iconst (v := 1) C dX12_writeDirty_151 (by decide) ?_
            obtain ⟨v35, ρ36, h37, hm⟩ := cll_e hm
            refine zx_callS (σ := ρ29) C [.int (x5), .int (1)] Y_X12_room W_6_209 W_6_210 (c_X12_room h37) (by decide) (by decide) rfl (Nat.le_of_ble_eq_true rfl) dX12_writeDirty_152 rfl ?_
            obtain ⟨n40, k38, i39, hm⟩ := ckR_e hm
            obtain ⟨h41, hm⟩ := ckI_e hm
            refine zx_iald C k38 i39 h41 dX12_writeDirty_155 ?_
            obtain ⟨k42, i43, hm⟩ := ckO_e hm
            rcases clx_e hm with ⟨v44, ρ45, h46, hm⟩ | ⟨ρ45, h46, hm⟩
            · refine zx_callV (σ := ρ36) C [.int (v28), .int (3), .int (tI (ρ36) (a33) ((v35).toNatClampNeg))] tC_11 k42 i43 Y_X12_version W_7_237 W_7_239 Wp_70 (c_X12_version h46) (by decide) (by decide) rfl (Nat.le_of_ble_eq_true rfl) dX12_writeDirty_156 rfl ?_
              refine zx_aload_n C dX12_writeDirty_159 0 rfl ?_
              obtain ⟨k47, i48, hm⟩ := ckO_e hm
              obtain ⟨a49, h50, hm⟩ := osm_e hm
              refine zx_get (j := 23) C tC_11 k47 i48 ⟨by decide, Or.inl W_7_2⟩ dX12_writeDirty_160 (.ref a49) (rf_s h50) ?_
              refine zx_iload C dX12_writeDirty_163 3 rfl ?_
              refine zx_iconst (v := 0) C dX12_writeDirty_165 (by decide) ?_
              obtain ⟨n53, k51, i52, hm⟩ := ckR_e hm
              obtain ⟨h54, hm⟩ := ckI_e hm
              refine zx_zast C k51 i52 h54 dX12_writeDirty_166 ?_
              obtain ⟨y55, hy55⟩ : ∃ z : Int32, z = (x4) + Int32.ofInt 1 := ⟨_, rfl⟩
              replace hm := ltb_e hm hy55
              refine zx_iinc C [(4, .int (y55)), (0, .ref (x0)), (2, .int (x2)), (5, .int (x5))] dX12_writeDirty_167 2 rfl hy55.symm (by decide) rfl ?_
              exact zx_lv [1, 2, 0, 3] [(0, .ref (x0)), (2, .int (x2)), (4, .int (y55)), (5, .int (x5))] rfl (j_X12_writeDirty_170 C htab hin hrc99   hm)
            · cases hm
              exact zx_outV (σ := ρ36) C htab [.int (v28), .int (3), .int (tI (ρ36) (a33) ((v35).toNatClampNeg))] tC_11 k42 i43 Y_X12_version W_7_237 W_7_239 Wp_70 (c_X12_version h46) rfl (by decide) (by decide) rfl (Nat.le_of_ble_eq_true rfl) dX12_writeDirty_156 rfl
          · replace hm := ip_e hm c27
            refine zx_goto C 170 dX12_writeDirty_134 (by decide) ?_
            exact zx_lv [0, 1, 2, 3] [(0, .ref (x0)), (2, .int (x2)), (4, .int (x4)), (5, .int (x5))] rfl (j_X12_writeDirty_170 C htab hin hrc99   hm)
set_option maxRecDepth 100000 in
set_option maxHeartbeats 1000000 in
theorem j_X12_writeDirty_87 {p : Program} {l : Launch} {e : Env} {s : State} {m : MethodId} {args : Array Value} {below : List Frame} {meth : Method} {c : Code} {D : va_G} {aC : Nat → ClassId} {b0 fu : Nat} {σ0 τ : tM} {v : (Int32) ⊕ Unit} {rc57 : Nat → Int32 → Int32 → Int32 → Int32 → tM → Option (((Int32) ⊕ Unit) × tM)} (C : tCx p l s m args meth c yX12_writeDirty.cls cX12_writeDirty 6 (some .int) D aC b0 σ0) (htab : ∀ x ∈ c.exceptionTable.toList, False) (hin : meth.name = yX12_writeDirty.name) (hrc57 : ∀ (x0 : Nat) (x1 : Int32) (x2 : Int32) (x3 : Int32) (x4 : Int32) (ρ : tM), rc57 x0 x1 x2 x3 x4 ρ = some (v, τ) → tX p l e s m args below meth c 6 4 92 D aC b0 σ0 (rxI "SyncTreeModel$Off" v) τ 57 [(0, .ref (x0)), (1, .int (x1)), (2, .int (x2)), (3, .int (x3)), (4, .int (x4))] [] ρ) {x0 : Nat} {x1 : Int32} {x2 : Int32} {x3 : Int32} {x4 : Int32} {σ : tM} (hm : J_X12_writeDirty_87 b0 fu rc57 x0 x1 x2 x3 x4 σ = some (v, τ)) : tX p l e s m args below meth c 6 4 92 D aC b0 σ0 (rxI "SyncTreeModel$Off" v) τ 87 [(0, .ref (x0)), (1, .int (x1)), (2, .int (x2)), (3, .int (x3)), (4, .int (x4))] [] σ := by
  unfold J_X12_writeDirty_87 at hm
  obtain ⟨y64, hy64⟩ : ∃ z : Int32, z = (x4) + Int32.ofInt 1 := ⟨_, rfl⟩
  replace hm := ltb_e hm hy64
  refine zx_iinc C [(4, .int (y64)), (0, .ref (x0)), (1, .int (x1)), (2, .int (x2)), (3, .int (x3))] dX12_writeDirty_87 4 rfl hy64.symm (by decide) rfl ?_
  refine zx_goto C 57 dX12_writeDirty_90 (by decide) ?_
  exact zx_lv [1, 2, 3, 4, 0] [(0, .ref (x0)), (1, .int (x1)), (2, .int (x2)), (3, .int (x3)), (4, .int (y64))] rfl (hrc57 _ _ _ _ _ _ hm)
set_option maxRecDepth 100000 in
set_option maxHeartbeats 1000000 in
theorem l_X12_writeDirty_57 {p : Program} {l : Launch} {e : Env} {s : State} {m : MethodId} {args : Array Value} {below : List Frame} {meth : Method} {c : Code} {D : va_G} {aC : Nat → ClassId} {b0 fu : Nat} {σ0 τ : tM} {v : (Int32) ⊕ Unit}  (C : tCx p l s m args meth c yX12_writeDirty.cls cX12_writeDirty 6 (some .int) D aC b0 σ0) (htab : ∀ x ∈ c.exceptionTable.toList, False) (hin : meth.name = yX12_writeDirty.name)  : ∀ (n : Nat) (x0 : Nat) (x1 : Int32) (x2 : Int32) (x3 : Int32) (x4 : Int32) (σ : tM), L_X12_writeDirty_57 b0 fu  n x0 x1 x2 x3 x4 σ = some (v, τ) → tX p l e s m args below meth c 6 4 92 D aC b0 σ0 (rxI "SyncTreeModel$Off" v) τ 57 [(0, .ref (x0)), (1, .int (x1)), (2, .int (x2)), (3, .int (x3)), (4, .int (x4))] [] σ := by
  intro n
  induction n with
  | zero => intro x0 x1 x2 x3 x4 σ hm; unfold L_X12_writeDirty_57 at hm; cases hm
  | succ n ih =>
    intro x0 x1 x2 x3 x4 σ hm
    unfold L_X12_writeDirty_57 at hm
    obtain ⟨rc57, hrc⟩ : ∃ z, z = L_X12_writeDirty_57 b0 fu  n := ⟨_, rfl⟩
    replace hm := ltb_e hm hrc
    rw [← hrc] at ih
    have hrc57 := ih
    clear ih hrc
    refine zx_iload C dX12_writeDirty_57 4 rfl ?_
    refine zx_iload_n C dX12_writeDirty_59 3 rfl ?_
    refine zx_icmp_ge C 93 dX12_writeDirty_60 (by decide) (fun c8 => ?_) (fun c8 => ?_)
    · replace hm := ip_e hm c8
      refine zx_iconst (v := 0) C dX12_writeDirty_93 (by decide) ?_
      refine zx_istore C [(4, .int (0)), (0, .ref (x0)), (1, .int (x1)), (2, .int (x2)), (3, .int (x3))] dX12_writeDirty_94 (by decide) rfl ?_
      refine zx_iconst (v := 0) C dX12_writeDirty_96 (by decide) ?_
      refine zx_istore C [(5, .int (0)), (4, .int (0)), (0, .ref (x0)), (1, .int (x1)), (2, .int (x2)), (3, .int (x3))] dX12_writeDirty_97 (by decide) rfl ?_
      exact zx_lv [2, 4, 1, 0] [(0, .ref (x0)), (2, .int (x2)), (4, .int (0)), (5, .int (0))] rfl (l_X12_writeDirty_99 C htab hin  _ _ _ _ _ _ hm)
    · replace hm := in_e hm c8
      refine zx_aload_n C dX12_writeDirty_63 0 rfl ?_
      refine zx_iload_n C dX12_writeDirty_64 1 rfl ?_
      refine zx_iload C dX12_writeDirty_65 4 rfl ?_
      obtain ⟨k57, i58, hm⟩ := ckO_e hm
      obtain ⟨v59, ρ60, h61, hm⟩ := cll_e hm
      refine zx_callV (σ := σ) C [.int (x1), .int (x4)] tC_11 k57 i58 Y_X12_has W_8_60 W_8_62 Wp_85 (c_X12_has h61) (by decide) (by decide) rfl (Nat.le_of_ble_eq_true rfl) dX12_writeDirty_67 rfl ?_
      refine zx_iconst (v := 1) C dX12_writeDirty_70 (by decide) ?_
      refine zx_isub C dX12_writeDirty_71 ?_
      refine zx_topi (fun y62 hy62 => ?_)
      replace hm := ltb_e hm hy62
      refine zx_istore C [(5, .int (y62)), (0, .ref (x0)), (1, .int (x1)), (2, .int (x2)), (3, .int (x3)), (4, .int (x4))] dX12_writeDirty_72 (by decide) rfl ?_
      refine zx_iload C dX12_writeDirty_74 0 rfl ?_
      refine zx_if_lt C 87 dX12_writeDirty_76 (by decide) (fun c63 => ?_) (fun c63 => ?_)
      · replace hm := ip_e hm c63
        exact zx_lv [1, 2, 3, 4, 5] [(0, .ref (x0)), (1, .int (x1)), (2, .int (x2)), (3, .int (x3)), (4, .int (x4))] rfl (j_X12_writeDirty_87 C htab hin hrc57   hm)
      · replace hm := in_e hm c63
        refine zx_aload_n C dX12_writeDirty_79 1 rfl ?_
        obtain ⟨k65, i66, hm⟩ := ckO_e hm
        obtain ⟨a67, h68, hm⟩ := osm_e hm
        refine zx_get (j := 59) C tC_11 k65 i66 ⟨by decide, Or.inl W_7_38⟩ dX12_writeDirty_80 (.ref a67) (rf_s h68) ?_
        refine zx_iload C dX12_writeDirty_83 0 rfl ?_
        refine zx_iconst (v := 1) C dX12_writeDirty_85 (by decide) ?_
        obtain ⟨n71, k69, i70, hm⟩ := ckR_e hm
        obtain ⟨h72, hm⟩ := ckI_e hm
        refine zx_zast C k69 i70 h72 dX12_writeDirty_86 ?_
        exact zx_lv [1, 2, 3, 4, 5] [(0, .ref (x0)), (1, .int (x1)), (2, .int (x2)), (3, .int (x3)), (4, .int (x4))] rfl (j_X12_writeDirty_87 C htab hin hrc57   hm)
set_option maxRecDepth 100000 in
set_option maxHeartbeats 1000000 in
theorem j_X12_writeDirty_53 {p : Program} {l : Launch} {e : Env} {s : State} {m : MethodId} {args : Array Value} {below : List Frame} {meth : Method} {c : Code} {D : va_G} {aC : Nat → ClassId} {b0 fu : Nat} {σ0 τ : tM} {v : (Int32) ⊕ Unit}  (C : tCx p l s m args meth c yX12_writeDirty.cls cX12_writeDirty 6 (some .int) D aC b0 σ0) (htab : ∀ x ∈ c.exceptionTable.toList, False) (hin : meth.name = yX12_writeDirty.name)  {x0 : Nat} {x1 : Int32} {x2 : Int32} {s0 : Int32} {σ : tM} (hm : J_X12_writeDirty_53 b0 fu  x0 x1 x2 s0 σ = some (v, τ)) : tX p l e s m args below meth c 6 4 92 D aC b0 σ0 (rxI "SyncTreeModel$Off" v) τ 53 [(0, .ref (x0)), (1, .int (x1)), (2, .int (x2))] [.int (s0)] σ := by
  unfold J_X12_writeDirty_53 at hm
  refine zx_istore_n C [(3, .int (s0)), (0, .ref (x0)), (1, .int (x1)), (2, .int (x2))] dX12_writeDirty_53 rfl (by decide) rfl ?_
  refine zx_iconst (v := 0) C dX12_writeDirty_54 (by decide) ?_
  refine zx_istore C [(4, .int (0)), (3, .int (s0)), (0, .ref (x0)), (1, .int (x1)), (2, .int (x2))] dX12_writeDirty_55 (by decide) rfl ?_
  exact zx_lv [2, 3, 4, 1, 0] [(0, .ref (x0)), (1, .int (x1)), (2, .int (x2)), (3, .int (s0)), (4, .int (0))] rfl (l_X12_writeDirty_57 C htab hin  _ _ _ _ _ _ _ hm)
set_option maxRecDepth 100000 in
set_option maxHeartbeats 1000000 in
theorem j_X12_writeDirty_24 {p : Program} {l : Launch} {e : Env} {s : State} {m : MethodId} {args : Array Value} {below : List Frame} {meth : Method} {c : Code} {D : va_G} {aC : Nat → ClassId} {b0 fu : Nat} {σ0 τ : tM} {v : (Int32) ⊕ Unit} {rc2 : Nat → Int32 → Int32 → Int32 → tM → Option (((Int32) ⊕ Unit) × tM)} (C : tCx p l s m args meth c yX12_writeDirty.cls cX12_writeDirty 6 (some .int) D aC b0 σ0) (htab : ∀ x ∈ c.exceptionTable.toList, False) (hin : meth.name = yX12_writeDirty.name) (hrc2 : ∀ (x0 : Nat) (x1 : Int32) (x2 : Int32) (x3 : Int32) (ρ : tM), rc2 x0 x1 x2 x3 ρ = some (v, τ) → tX p l e s m args below meth c 6 4 92 D aC b0 σ0 (rxI "SyncTreeModel$Off" v) τ 2 [(0, .ref (x0)), (1, .int (x1)), (2, .int (x2)), (3, .int (x3))] [] ρ) {x0 : Nat} {x1 : Int32} {x2 : Int32} {x3 : Int32} {s0 : Nat} {s1 : Int32} {s2 : Int32} {σ : tM} (hm : J_X12_writeDirty_24 b0 fu rc2 x0 x1 x2 x3 s0 s1 s2 σ = some (v, τ)) : tX p l e s m args below meth c 6 4 92 D aC b0 σ0 (rxI "SyncTreeModel$Off" v) τ 24 [(0, .ref (x0)), (1, .int (x1)), (2, .int (x2)), (3, .int (x3))] [.int (s2), .int (s1), .ref (s0)] σ := by
  unfold J_X12_writeDirty_24 at hm
  obtain ⟨n79, k77, i78, hm⟩ := ckR_e hm
  obtain ⟨h80, hm⟩ := ckI_e hm
  refine zx_zast C k77 i78 h80 dX12_writeDirty_24 ?_
  obtain ⟨y81, hy81⟩ : ∃ z : Int32, z = (x3) + Int32.ofInt 1 := ⟨_, rfl⟩
  replace hm := ltb_e hm hy81
  refine zx_iinc C [(3, .int (y81)), (0, .ref (x0)), (1, .int (x1)), (2, .int (x2))] dX12_writeDirty_25 3 rfl hy81.symm (by decide) rfl ?_
  refine zx_goto C 2 dX12_writeDirty_28 (by decide) ?_
  exact zx_lv [1, 2, 3, 0] [(0, .ref (x0)), (1, .int (x1)), (2, .int (x2)), (3, .int (y81))] rfl (hrc2 _ _ _ _ _ hm)
set_option maxRecDepth 100000 in
set_option maxHeartbeats 1000000 in
theorem l_X12_writeDirty_2 {p : Program} {l : Launch} {e : Env} {s : State} {m : MethodId} {args : Array Value} {below : List Frame} {meth : Method} {c : Code} {D : va_G} {aC : Nat → ClassId} {b0 fu : Nat} {σ0 τ : tM} {v : (Int32) ⊕ Unit}  (C : tCx p l s m args meth c yX12_writeDirty.cls cX12_writeDirty 6 (some .int) D aC b0 σ0) (htab : ∀ x ∈ c.exceptionTable.toList, False) (hin : meth.name = yX12_writeDirty.name)  : ∀ (n : Nat) (x0 : Nat) (x1 : Int32) (x2 : Int32) (x3 : Int32) (σ : tM), L_X12_writeDirty_2 b0 fu  n x0 x1 x2 x3 σ = some (v, τ) → tX p l e s m args below meth c 6 4 92 D aC b0 σ0 (rxI "SyncTreeModel$Off" v) τ 2 [(0, .ref (x0)), (1, .int (x1)), (2, .int (x2)), (3, .int (x3))] [] σ := by
  intro n
  induction n with
  | zero => intro x0 x1 x2 x3 σ hm; unfold L_X12_writeDirty_2 at hm; cases hm
  | succ n ih =>
    intro x0 x1 x2 x3 σ hm
    unfold L_X12_writeDirty_2 at hm
    obtain ⟨rc2, hrc⟩ : ∃ z, z = L_X12_writeDirty_2 b0 fu  n := ⟨_, rfl⟩
    replace hm := ltb_e hm hrc
    rw [← hrc] at ih
    have hrc2 := ih
    clear ih hrc
    refine zx_iload_n C dX12_writeDirty_2 3 rfl ?_
    refine zx_aload_n C dX12_writeDirty_3 0 rfl ?_
    obtain ⟨k1, i2, hm⟩ := ckO_e hm
    refine zx_get (j := 7) C tC_11 k1 i2 ⟨by decide, Or.inl W_6_226⟩ dX12_writeDirty_4 (.int (tI (σ) (x0) 7)) rfl ?_
    refine zx_icmp_ge C 31 dX12_writeDirty_7 (by decide) (fun c3 => ?_) (fun c3 => ?_)
    · replace hm := ip_e hm c3
      refine zx_iload_n C dX12_writeDirty_31 1 rfl ?_
      refine zx_if_ge C 39 dX12_writeDirty_32 (by decide) (fun c4 => ?_) (fun c4 => ?_)
      · replace hm := ip_e hm c4
        refine zx_aload_n C dX12_writeDirty_39 0 rfl ?_
        refine zx_iload_n C dX12_writeDirty_40 1 rfl ?_
        refine zx_iconst (v := 1) C dX12_writeDirty_41 (by decide) ?_
        obtain ⟨v5, ρ6, h7, hm⟩ := cll_e hm
        refine zx_callV (σ := σ) C [.int (x1), .int (1)] tC_11 k1 i2 Y_X12_node W_8_40 W_8_42 Wp_80 (c_X12_node h7) (by decide) (by decide) rfl (Nat.le_of_ble_eq_true rfl) dX12_writeDirty_42 rfl ?_
        refine zx_sipush (v := 255) C dX12_writeDirty_45 (by decide) ?_
        refine zx_iadd C dX12_writeDirty_48 ?_
        refine zx_sipush (v := 256) C dX12_writeDirty_49 (by decide) ?_
        refine zx_idiv C dX12_writeDirty_52 (by decide) ?_
        exact zx_lv [0, 1, 2] [(0, .ref (x0)), (1, .int (x1)), (2, .int (x2))] rfl (j_X12_writeDirty_53 C htab hin    hm)
      · replace hm := in_e hm c4
        refine zx_iconst (v := 0) C dX12_writeDirty_35 (by decide) ?_
        refine zx_goto C 53 dX12_writeDirty_36 (by decide) ?_
        exact zx_lv [0, 1, 2] [(0, .ref (x0)), (1, .int (x1)), (2, .int (x2))] rfl (j_X12_writeDirty_53 C htab hin    hm)
    · replace hm := in_e hm c3
      refine zx_aload_n C dX12_writeDirty_10 0 rfl ?_
      obtain ⟨a74, h75, hm⟩ := osm_e hm
      refine zx_get (j := 59) C tC_11 k1 i2 ⟨by decide, Or.inl W_7_38⟩ dX12_writeDirty_11 (.ref a74) (rf_s h75) ?_
      refine zx_iload_n C dX12_writeDirty_14 3 rfl ?_
      refine zx_iload_n C dX12_writeDirty_15 1 rfl ?_
      refine zx_if_ge C 23 dX12_writeDirty_16 (by decide) (fun c76 => ?_) (fun c76 => ?_)
      · replace hm := ip_e hm c76
        refine zx_iconst (v := 0) C dX12_writeDirty_23 (by decide) ?_
        exact zx_lv [0, 1, 2, 3] [(0, .ref (x0)), (1, .int (x1)), (2, .int (x2)), (3, .int (x3))] rfl (j_X12_writeDirty_24 C htab hin hrc2   hm)
      · replace hm := in_e hm c76
        refine zx_iconst (v := 1) C dX12_writeDirty_19 (by decide) ?_
        refine zx_goto C 24 dX12_writeDirty_20 (by decide) ?_
        exact zx_lv [0, 1, 2, 3] [(0, .ref (x0)), (1, .int (x1)), (2, .int (x2)), (3, .int (x3))] rfl (j_X12_writeDirty_24 C htab hin hrc2   hm)
set_option maxRecDepth 100000 in
set_option maxHeartbeats 1000000 in
theorem c_X12_writeDirty {l : Launch} {D : va_G} {aC : Nat → ClassId} {b0 fu : Nat} {a0 : Nat} {p0 : Int32} {p1 : Int32} {σ τ : tM} {v : (Int32) ⊕ Unit} (hm : m_X12_writeDirty b0 fu a0 p0 p1 σ = some (v, τ)) : tMt l D aC b0 yX12_writeDirty (Cond.code yX12_writeDirty cX12_writeDirty 6 (some .int)) 4 92 [.ref (a0), .int (p0), .int (p1)] σ (rxI "SyncTreeModel$Off" v) τ := by
  unfold m_X12_writeDirty at hm
  obtain ⟨hg, hm⟩ := grw_e hm
  refine tMt_of (n := 0) rfl (Nat.le_of_ble_eq_true rfl) hg ?_
  intro p e s m below meth c C htab hin
  refine zx_lv [0, 1, 2] [(0, .ref (a0)), (1, .int (p0)), (2, .int (p1))] rfl ?_
  refine zx_iconst (v := 0) C dX12_writeDirty_0 (by decide) ?_
  refine zx_istore_n C [(3, .int (0)), (0, .ref (a0)), (1, .int (p0)), (2, .int (p1))] dX12_writeDirty_1 rfl (by decide) rfl ?_
  exact zx_lv [1, 2, 3, 0] [(0, .ref (a0)), (1, .int (p0)), (2, .int (p1)), (3, .int (0))] rfl (l_X12_writeDirty_2 C htab hin  _ _ _ _ _ _ hm)
abbrev cX0_put : ByteArray := prog_2_method_6_code
def yX0_put : MethodName := ⟨"SyncTree$Disk", "put", "(II)V"⟩
theorem Y_X0_put : tY yX0_put cX0_put 4 none 2 := ⟨W_3_231, W_1_2, ⟨by decide +kernel, by decide +kernel⟩, by decide +kernel⟩
theorem dX0_put_0 : decode cX0_put 0 = .ok (.aload_n 0, 1) := by decide +kernel
theorem dX0_put_1 : decode cX0_put 1 = .ok (.invokevirtual 84, 3) := by decide +kernel
theorem dX0_put_4 : decode cX0_put 4 = .ok (.iload_n 1, 1) := by decide +kernel
theorem dX0_put_5 : decode cX0_put 5 = .ok (.ifCond .lt 11, 3) := by decide +kernel
theorem dX0_put_8 : decode cX0_put 8 = .ok (.iload_n 1, 1) := by decide +kernel
theorem dX0_put_9 : decode cX0_put 9 = .ok (.aload_n 0, 1) := by decide +kernel
theorem dX0_put_10 : decode cX0_put 10 = .ok (.getfield 40, 3) := by decide +kernel
theorem dX0_put_13 : decode cX0_put 13 = .ok (.if_icmp .lt 4, 3) := by decide +kernel
theorem dX0_put_16 : decode cX0_put 16 = .ok (.return_, 1) := by decide +kernel
theorem dX0_put_17 : decode cX0_put 17 = .ok (.aload_n 0, 1) := by decide +kernel
theorem dX0_put_18 : decode cX0_put 18 = .ok (.getfield 56, 3) := by decide +kernel
theorem dX0_put_21 : decode cX0_put 21 = .ok (.sipush 256, 3) := by decide +kernel
theorem dX0_put_24 : decode cX0_put 24 = .ok (.if_icmp .lt 7, 3) := by decide +kernel
theorem dX0_put_27 : decode cX0_put 27 = .ok (.aload_n 0, 1) := by decide +kernel
theorem dX0_put_28 : decode cX0_put 28 = .ok (.invokevirtual 87, 3) := by decide +kernel
theorem dX0_put_31 : decode cX0_put 31 = .ok (.aload_n 0, 1) := by decide +kernel
theorem dX0_put_32 : decode cX0_put 32 = .ok (.getfield 53, 3) := by decide +kernel
theorem dX0_put_35 : decode cX0_put 35 = .ok (.aload_n 0, 1) := by decide +kernel
theorem dX0_put_36 : decode cX0_put 36 = .ok (.getfield 56, 3) := by decide +kernel
theorem dX0_put_39 : decode cX0_put 39 = .ok (.iadd, 1) := by decide +kernel
theorem dX0_put_40 : decode cX0_put 40 = .ok (.sipush 256, 3) := by decide +kernel
theorem dX0_put_43 : decode cX0_put 43 = .ok (.irem, 1) := by decide +kernel
theorem dX0_put_44 : decode cX0_put 44 = .ok (.istore_n 3, 1) := by decide +kernel
theorem dX0_put_45 : decode cX0_put 45 = .ok (.aload_n 0, 1) := by decide +kernel
theorem dX0_put_46 : decode cX0_put 46 = .ok (.getfield 27, 3) := by decide +kernel
theorem dX0_put_49 : decode cX0_put 49 = .ok (.iload_n 3, 1) := by decide +kernel
theorem dX0_put_50 : decode cX0_put 50 = .ok (.iload_n 1, 1) := by decide +kernel
theorem dX0_put_51 : decode cX0_put 51 = .ok (.iastore, 1) := by decide +kernel
theorem dX0_put_52 : decode cX0_put 52 = .ok (.aload_n 0, 1) := by decide +kernel
theorem dX0_put_53 : decode cX0_put 53 = .ok (.getfield 30, 3) := by decide +kernel
theorem dX0_put_56 : decode cX0_put 56 = .ok (.iload_n 3, 1) := by decide +kernel
theorem dX0_put_57 : decode cX0_put 57 = .ok (.iload_n 2, 1) := by decide +kernel
theorem dX0_put_58 : decode cX0_put 58 = .ok (.iastore, 1) := by decide +kernel
theorem dX0_put_59 : decode cX0_put 59 = .ok (.aload_n 0, 1) := by decide +kernel
theorem dX0_put_60 : decode cX0_put 60 = .ok (.getfield 36, 3) := by decide +kernel
theorem dX0_put_63 : decode cX0_put 63 = .ok (.iload_n 3, 1) := by decide +kernel
theorem dX0_put_64 : decode cX0_put 64 = .ok (.iconst 0, 1) := by decide +kernel
theorem dX0_put_65 : decode cX0_put 65 = .ok (.bastore, 1) := by decide +kernel
theorem dX0_put_66 : decode cX0_put 66 = .ok (.aload_n 0, 1) := by decide +kernel
theorem dX0_put_67 : decode cX0_put 67 = .ok (.dup, 1) := by decide +kernel
theorem dX0_put_68 : decode cX0_put 68 = .ok (.getfield 56, 3) := by decide +kernel
theorem dX0_put_71 : decode cX0_put 71 = .ok (.iconst 1, 1) := by decide +kernel
theorem dX0_put_72 : decode cX0_put 72 = .ok (.iadd, 1) := by decide +kernel
theorem dX0_put_73 : decode cX0_put 73 = .ok (.putfield 56, 3) := by decide +kernel
theorem dX0_put_76 : decode cX0_put 76 = .ok (.aload_n 0, 1) := by decide +kernel
theorem dX0_put_77 : decode cX0_put 77 = .ok (.getfield 21, 3) := by decide +kernel
theorem dX0_put_80 : decode cX0_put 80 = .ok (.iload_n 1, 1) := by decide +kernel
theorem dX0_put_81 : decode cX0_put 81 = .ok (.dup2, 1) := by decide +kernel
theorem dX0_put_82 : decode cX0_put 82 = .ok (.iaload, 1) := by decide +kernel
theorem dX0_put_83 : decode cX0_put 83 = .ok (.iconst 1, 1) := by decide +kernel
theorem dX0_put_84 : decode cX0_put 84 = .ok (.iadd, 1) := by decide +kernel
theorem dX0_put_85 : decode cX0_put 85 = .ok (.iastore, 1) := by decide +kernel
theorem dX0_put_86 : decode cX0_put 86 = .ok (.return_, 1) := by decide +kernel
def J_X0_put_16 (b0 fu : Nat)   (σ : tM) : Option (((Unit) ⊕ Unit) × tM) := some (.inl (()), σ)
def J_X0_put_31 (b0 fu : Nat)  (x0 : Nat) (x1 : Int32) (x2 : Int32) (σ : tM) : Option (((Unit) ⊕ Unit) × tM) := ckO b0 (σ) (x0) 0 (ltb ((((tI (σ) (x0) 9) + (tI (σ) (x0) 10)) - ((tI (σ) (x0) 9) + (tI (σ) (x0) 10)) / (256) * (256) : Int32)) (fun y13 => osm (tA (σ) (x0) 4) (fun a14 => ckR b0 (σ) (a14) 0 (fun n18 => ckI (y13) (n18) (osm (tA (sI (σ) (a14) ((y13).toNatClampNeg) (x1)) (x0) 5) (fun a20 => ckR b0 (sI (σ) (a14) ((y13).toNatClampNeg) (x1)) (a20) 0 (fun n24 => ckI (y13) (n24) (osm (tA (sI (sI (σ) (a14) ((y13).toNatClampNeg) (x1)) (a20) ((y13).toNatClampNeg) (x2)) (x0) 7) (fun a26 => ckR b0 (sI (sI (σ) (a14) ((y13).toNatClampNeg) (x1)) (a20) ((y13).toNatClampNeg) (x2)) (a26) 2 (fun n30 => ckI (y13) (n30) (ltb (sI (sI (sI (sI (σ) (a14) ((y13).toNatClampNeg) (x1)) (a20) ((y13).toNatClampNeg) (x2)) (a26) ((y13).toNatClampNeg) (vp_nar .boolean ((0 : Int32)))) (x0) 10 ((tI (sI (sI (sI (σ) (a14) ((y13).toNatClampNeg) (x1)) (a20) ((y13).toNatClampNeg) (x2)) (a26) ((y13).toNatClampNeg) (vp_nar .boolean ((0 : Int32)))) (x0) 10) + (1))) (fun ρ32 => osm (tA (ρ32) (x0) 2) (fun a41 => ckR b0 (ρ32) (a41) 0 (fun n45 => ckI (x1) (n45) (ckI (x1) (n45) (some (.inl (()), sI (ρ32) (a41) ((x1).toNatClampNeg) ((tI (ρ32) (a41) ((x1).toNatClampNeg)) + (1)))))))))))))))))))
def m_X0_put (b0 fu : Nat) (a0 : Nat) (p0 : Int32) (p1 : Int32) (σ : tM) : Option (((Unit) ⊕ Unit) × tM) := grw σ (ckO b0 (σ) (a0) 0 (clx (m_X0_act b0 fu (a0) (σ)) (fun v3 ρ4 => if (p0) < (0) then J_X0_put_16 b0 fu    (ρ4) else ckO b0 (ρ4) (a0) 0 (if (p0) < (tI (ρ4) (a0) 8) then if (tI (ρ4) (a0) 10) < (256) then J_X0_put_31 b0 fu   (a0) (p0) (p1) (ρ4) else cll (m_X0_keepOldest b0 fu (a0) (ρ4)) (fun v49 ρ50 => J_X0_put_31 b0 fu   (a0) (p0) (p1) (ρ50)) else J_X0_put_16 b0 fu    (ρ4)))))
set_option maxRecDepth 100000 in
set_option maxHeartbeats 1000000 in
theorem j_X0_put_16 {p : Program} {l : Launch} {e : Env} {s : State} {m : MethodId} {args : Array Value} {below : List Frame} {meth : Method} {c : Code} {D : va_G} {aC : Nat → ClassId} {b0 fu : Nat} {σ0 τ : tM} {v : (Unit) ⊕ Unit}  (C : tCx p l s m args meth c yX0_put.cls cX0_put 4 none D aC b0 σ0) (htab : ∀ x ∈ c.exceptionTable.toList, False) (hin : meth.name = yX0_put.name)   {σ : tM} (hm : J_X0_put_16 b0 fu   σ = some (v, τ)) : tX p l e s m args below meth c 4 7 110 D aC b0 σ0 (rxV "java/lang/IllegalStateException" v) τ 16 [] [] σ := by
  unfold J_X0_put_16 at hm
  obtain ⟨rfl, rfl⟩ := ret_e hm
  exact zx_vret C rfl rfl rfl dX0_put_16
set_option maxRecDepth 100000 in
set_option maxHeartbeats 1000000 in
theorem j_X0_put_31 {p : Program} {l : Launch} {e : Env} {s : State} {m : MethodId} {args : Array Value} {below : List Frame} {meth : Method} {c : Code} {D : va_G} {aC : Nat → ClassId} {b0 fu : Nat} {σ0 τ : tM} {v : (Unit) ⊕ Unit}  (C : tCx p l s m args meth c yX0_put.cls cX0_put 4 none D aC b0 σ0) (htab : ∀ x ∈ c.exceptionTable.toList, False) (hin : meth.name = yX0_put.name)  {x0 : Nat} {x1 : Int32} {x2 : Int32} {σ : tM} (hm : J_X0_put_31 b0 fu  x0 x1 x2 σ = some (v, τ)) : tX p l e s m args below meth c 4 7 110 D aC b0 σ0 (rxV "java/lang/IllegalStateException" v) τ 31 [(0, .ref (x0)), (1, .int (x1)), (2, .int (x2))] [] σ := by
  unfold J_X0_put_31 at hm
  refine zx_aload_n C dX0_put_31 0 rfl ?_
  obtain ⟨k11, i12, hm⟩ := ckO_e hm
  refine zx_get (j := 9) C tC_0 k11 i12 ⟨by decide, Or.inl W_1_45⟩ dX0_put_32 (.int (tI (σ) (x0) 9)) rfl ?_
  refine zx_aload_n C dX0_put_35 0 rfl ?_
  refine zx_get (j := 10) C tC_0 k11 i12 ⟨by decide, Or.inl W_1_46⟩ dX0_put_36 (.int (tI (σ) (x0) 10)) rfl ?_
  refine zx_iadd C dX0_put_39 ?_
  refine zx_sipush (v := 256) C dX0_put_40 (by decide) ?_
  refine zx_irem C dX0_put_43 (by decide) ?_
  refine zx_topi (fun y13 hy13 => ?_)
  replace hm := ltb_e hm hy13
  refine zx_istore_n C [(3, .int (y13)), (0, .ref (x0)), (1, .int (x1)), (2, .int (x2))] dX0_put_44 rfl (by decide) rfl ?_
  refine zx_aload_n C dX0_put_45 1 rfl ?_
  obtain ⟨a14, h15, hm⟩ := osm_e hm
  refine zx_get (j := 4) C tC_0 k11 i12 ⟨by decide, Or.inl W_1_40⟩ dX0_put_46 (.ref a14) (rf_s h15) ?_
  refine zx_iload_n C dX0_put_49 0 rfl ?_
  refine zx_iload_n C dX0_put_50 2 rfl ?_
  obtain ⟨n18, k16, i17, hm⟩ := ckR_e hm
  obtain ⟨h19, hm⟩ := ckI_e hm
  refine zx_iast C k16 i17 h19 dX0_put_51 ?_
  refine zx_aload_n C dX0_put_52 1 rfl ?_
  obtain ⟨a20, h21, hm⟩ := osm_e hm
  refine zx_get (j := 5) C tC_0 k11 i12 ⟨by decide, Or.inl W_1_41⟩ dX0_put_53 (.ref a20) (rf_s h21) ?_
  refine zx_iload_n C dX0_put_56 0 rfl ?_
  refine zx_iload_n C dX0_put_57 3 rfl ?_
  obtain ⟨n24, k22, i23, hm⟩ := ckR_e hm
  obtain ⟨h25, hm⟩ := ckI_e hm
  refine zx_iast C k22 i23 h25 dX0_put_58 ?_
  refine zx_aload_n C dX0_put_59 1 rfl ?_
  obtain ⟨a26, h27, hm⟩ := osm_e hm
  refine zx_get (j := 7) C tC_0 k11 i12 ⟨by decide, Or.inl W_1_43⟩ dX0_put_60 (.ref a26) (rf_s h27) ?_
  refine zx_iload_n C dX0_put_63 0 rfl ?_
  refine zx_iconst (v := 0) C dX0_put_64 (by decide) ?_
  obtain ⟨n30, k28, i29, hm⟩ := ckR_e hm
  obtain ⟨h31, hm⟩ := ckI_e hm
  refine zx_zast C k28 i29 h31 dX0_put_65 ?_
  refine zx_aload_n C dX0_put_66 1 rfl ?_
  refine zx_dup C dX0_put_67 rfl ?_
  refine zx_get (j := 10) C tC_0 k11 i12 ⟨by decide, Or.inl W_1_46⟩ dX0_put_68 (.int (tI (sI (sI (sI (σ) (a14) ((y13).toNatClampNeg) (x1)) (a20) ((y13).toNatClampNeg) (x2)) (a26) ((y13).toNatClampNeg) (vp_nar .boolean ((0 : Int32)))) (x0) 10)) rfl ?_
  refine zx_iconst (v := 1) C dX0_put_71 (by decide) ?_
  refine zx_iadd C dX0_put_72 ?_
  refine zx_put (j := 10) (ρ := sI (sI (sI (sI (σ) (a14) ((y13).toNatClampNeg) (x1)) (a20) ((y13).toNatClampNeg) (x2)) (a26) ((y13).toNatClampNeg) (vp_nar .boolean ((0 : Int32)))) (x0) 10 ((tI (sI (sI (sI (σ) (a14) ((y13).toNatClampNeg) (x1)) (a20) ((y13).toNatClampNeg) (x2)) (a26) ((y13).toNatClampNeg) (vp_nar .boolean ((0 : Int32)))) (x0) 10) + (1))) C tC_0 k11 i12 ⟨by decide, Or.inl W_1_46⟩ rfl rfl rfl (sI_ok (fun _ => rfl)) dX0_put_73 ?_
  refine zx_mem (fun ρ32 hρ32 => ?_)
  replace hm := ltb_e hm hρ32
  have k33 : tk ρ32 (x0) = .inl 0 := by rw [hρ32]; exact k11
  have i34 : tIn b0 ρ32 (x0) := by rw [hρ32]; exact i12
  have k35 : tk ρ32 (a14) = .inr (0, n18) := by rw [hρ32]; exact k16
  have i36 : tIn b0 ρ32 (a14) := by rw [hρ32]; exact i17
  have k37 : tk ρ32 (a20) = .inr (0, n24) := by rw [hρ32]; exact k22
  have i38 : tIn b0 ρ32 (a20) := by rw [hρ32]; exact i23
  have k39 : tk ρ32 (a26) = .inr (2, n30) := by rw [hρ32]; exact k28
  have i40 : tIn b0 ρ32 (a26) := by rw [hρ32]; exact i29
  refine zx_aload_n C dX0_put_76 1 rfl ?_
  obtain ⟨a41, h42, hm⟩ := osm_e hm
  refine zx_get (j := 2) C tC_0 k33 i34 ⟨by decide, Or.inl W_1_38⟩ dX0_put_77 (.ref a41) (rf_s h42) ?_
  refine zx_iload_n C dX0_put_80 2 rfl ?_
  refine zx_dup2_11 C dX0_put_81 rfl rfl ?_
  obtain ⟨n45, k43, i44, hm⟩ := ckR_e hm
  obtain ⟨h46, hm⟩ := ckI_e hm
  refine zx_iald C k43 i44 h46 dX0_put_82 ?_
  refine zx_iconst (v := 1) C dX0_put_83 (by decide) ?_
  refine zx_iadd C dX0_put_84 ?_
  obtain ⟨h47, hm⟩ := ckI_e hm
  refine zx_iast C k43 i44 h47 dX0_put_85 ?_
  obtain ⟨rfl, rfl⟩ := ret_e hm
  exact zx_vret C rfl rfl rfl dX0_put_86
set_option maxRecDepth 100000 in
set_option maxHeartbeats 1000000 in
theorem c_X0_put {l : Launch} {D : va_G} {aC : Nat → ClassId} {b0 fu : Nat} {a0 : Nat} {p0 : Int32} {p1 : Int32} {σ τ : tM} {v : (Unit) ⊕ Unit} (hm : m_X0_put b0 fu a0 p0 p1 σ = some (v, τ)) : tMt l D aC b0 yX0_put (Cond.code yX0_put cX0_put 4 none) 7 110 [.ref (a0), .int (p0), .int (p1)] σ (rxV "java/lang/IllegalStateException" v) τ := by
  unfold m_X0_put at hm
  obtain ⟨hg, hm⟩ := grw_e hm
  refine tMt_of (n := 0) rfl (Nat.le_of_ble_eq_true rfl) hg ?_
  intro p e s m below meth c C htab hin
  refine zx_lv [0, 1, 2] [(0, .ref (a0)), (1, .int (p0)), (2, .int (p1))] rfl ?_
  refine zx_aload_n C dX0_put_0 0 rfl ?_
  obtain ⟨k1, i2, hm⟩ := ckO_e hm
  rcases clx_e hm with ⟨v3, ρ4, h5, hm⟩ | ⟨ρ4, h5, hm⟩
  · refine zx_callV (σ := σ) C [] tC_0 k1 i2 Y_X0_act W_3_199 W_3_201 Wp_12 (c_X0_act h5) (by decide) (by decide) rfl (Nat.le_of_ble_eq_true rfl) dX0_put_1 rfl ?_
    refine zx_iload_n C dX0_put_4 1 rfl ?_
    refine zx_if_lt C 16 dX0_put_5 (by decide) (fun c6 => ?_) (fun c6 => ?_)
    · replace hm := ip_e hm c6
      exact zx_lv [] [] rfl (j_X0_put_16 C htab hin    hm)
    · replace hm := in_e hm c6
      refine zx_iload_n C dX0_put_8 1 rfl ?_
      refine zx_aload_n C dX0_put_9 0 rfl ?_
      obtain ⟨k7, i8, hm⟩ := ckO_e hm
      refine zx_get (j := 8) C tC_0 k7 i8 ⟨by decide, Or.inl W_1_44⟩ dX0_put_10 (.int (tI (ρ4) (a0) 8)) rfl ?_
      refine zx_icmp_lt C 17 dX0_put_13 (by decide) (fun c9 => ?_) (fun c9 => ?_)
      · replace hm := ip_e hm c9
        refine zx_aload_n C dX0_put_17 0 rfl ?_
        refine zx_get (j := 10) C tC_0 k7 i8 ⟨by decide, Or.inl W_1_46⟩ dX0_put_18 (.int (tI (ρ4) (a0) 10)) rfl ?_
        refine zx_sipush (v := 256) C dX0_put_21 (by decide) ?_
        refine zx_icmp_lt C 31 dX0_put_24 (by decide) (fun c10 => ?_) (fun c10 => ?_)
        · replace hm := ip_e hm c10
          exact zx_lv [0, 1, 2] [(0, .ref (a0)), (1, .int (p0)), (2, .int (p1))] rfl (j_X0_put_31 C htab hin    hm)
        · replace hm := in_e hm c10
          refine zx_aload_n C dX0_put_27 0 rfl ?_
          obtain ⟨v49, ρ50, h51, hm⟩ := cll_e hm
          refine zx_callV (σ := ρ4) C [] tC_0 k7 i8 Y_X0_keepOldest W_3_208 W_3_210 Wp_13 (c_X0_keepOldest h51) (by decide) (by decide) rfl (Nat.le_of_ble_eq_true rfl) dX0_put_28 rfl ?_
          exact zx_lv [0, 1, 2] [(0, .ref (a0)), (1, .int (p0)), (2, .int (p1))] rfl (j_X0_put_31 C htab hin    hm)
      · replace hm := in_e hm c9
        exact zx_lv [] [] rfl (j_X0_put_16 C htab hin    hm)
  · cases hm
    exact zx_outV (σ := σ) C htab [] tC_0 k1 i2 Y_X0_act W_3_199 W_3_201 Wp_12 (c_X0_act h5) rfl (by decide) (by decide) rfl (Nat.le_of_ble_eq_true rfl) dX0_put_1 rfl
abbrev cX0_flushCache : ByteArray := prog_2_method_8_code
def yX0_flushCache : MethodName := ⟨"SyncTree$Disk", "flushCache", "()V"⟩
theorem Y_X0_flushCache : tY yX0_flushCache cX0_flushCache 2 none 0 := ⟨W_3_198, W_1_2, ⟨by decide +kernel, by decide +kernel⟩, by decide +kernel⟩
theorem dX0_flushCache_0 : decode cX0_flushCache 0 = .ok (.aload_n 0, 1) := by decide +kernel
theorem dX0_flushCache_1 : decode cX0_flushCache 1 = .ok (.invokevirtual 84, 3) := by decide +kernel
theorem dX0_flushCache_4 : decode cX0_flushCache 4 = .ok (.aload_n 0, 1) := by decide +kernel
theorem dX0_flushCache_5 : decode cX0_flushCache 5 = .ok (.getfield 56, 3) := by decide +kernel
theorem dX0_flushCache_8 : decode cX0_flushCache 8 = .ok (.istore_n 1, 1) := by decide +kernel
theorem dX0_flushCache_9 : decode cX0_flushCache 9 = .ok (.iload_n 1, 1) := by decide +kernel
theorem dX0_flushCache_10 : decode cX0_flushCache 10 = .ok (.ifCond .le 13, 3) := by decide +kernel
theorem dX0_flushCache_13 : decode cX0_flushCache 13 = .ok (.aload_n 0, 1) := by decide +kernel
theorem dX0_flushCache_14 : decode cX0_flushCache 14 = .ok (.invokevirtual 87, 3) := by decide +kernel
theorem dX0_flushCache_17 : decode cX0_flushCache 17 = .ok (.iinc 1 (-1), 3) := by decide +kernel
theorem dX0_flushCache_20 : decode cX0_flushCache 20 = .ok (.goto (-11), 3) := by decide +kernel
theorem dX0_flushCache_23 : decode cX0_flushCache 23 = .ok (.aload_n 0, 1) := by decide +kernel
theorem dX0_flushCache_24 : decode cX0_flushCache 24 = .ok (.dup, 1) := by decide +kernel
theorem dX0_flushCache_25 : decode cX0_flushCache 25 = .ok (.getfield 62, 3) := by decide +kernel
theorem dX0_flushCache_28 : decode cX0_flushCache 28 = .ok (.iconst 1, 1) := by decide +kernel
theorem dX0_flushCache_29 : decode cX0_flushCache 29 = .ok (.iadd, 1) := by decide +kernel
theorem dX0_flushCache_30 : decode cX0_flushCache 30 = .ok (.putfield 62, 3) := by decide +kernel
theorem dX0_flushCache_33 : decode cX0_flushCache 33 = .ok (.return_, 1) := by decide +kernel
def L_X0_flushCache_9 (b0 fu : Nat)  : Nat → Nat → Int32 → tM → Option (((Unit) ⊕ Unit) × tM)
  | 0, _, _, _ => none
  | n + 1, x0, x1, σ => ltb (L_X0_flushCache_9 b0 fu  n) (fun rc9 => if (x1) ≤ (0) then ckO b0 (σ) (x0) 0 (some (.inl (()), sI (σ) (x0) 12 ((tI (σ) (x0) 12) + (1)))) else ckO b0 (σ) (x0) 0 (cll (m_X0_keepOldest b0 fu (x0) (σ)) (fun v14 ρ15 => ltb ((x1) + Int32.ofInt (-1)) (fun y17 => rc9 (x0) (y17) (ρ15)))))
def m_X0_flushCache (b0 fu : Nat) (a0 : Nat) (σ : tM) : Option (((Unit) ⊕ Unit) × tM) := grw σ (ckO b0 (σ) (a0) 0 (clx (m_X0_act b0 fu (a0) (σ)) (fun v3 ρ4 => ckO b0 (ρ4) (a0) 0 (ltb ((tI (ρ4) (a0) 10 : Int32)) (fun y8 => L_X0_flushCache_9 b0 fu  (fu) (a0) (y8) (ρ4))))))
set_option maxRecDepth 100000 in
set_option maxHeartbeats 1000000 in
theorem l_X0_flushCache_9 {p : Program} {l : Launch} {e : Env} {s : State} {m : MethodId} {args : Array Value} {below : List Frame} {meth : Method} {c : Code} {D : va_G} {aC : Nat → ClassId} {b0 fu : Nat} {σ0 τ : tM} {v : (Unit) ⊕ Unit}  (C : tCx p l s m args meth c yX0_flushCache.cls cX0_flushCache 2 none D aC b0 σ0) (htab : ∀ x ∈ c.exceptionTable.toList, False) (hin : meth.name = yX0_flushCache.name)  : ∀ (n : Nat) (x0 : Nat) (x1 : Int32) (σ : tM), L_X0_flushCache_9 b0 fu  n x0 x1 σ = some (v, τ) → tX p l e s m args below meth c 2 7 110 D aC b0 σ0 (rxV "java/lang/IllegalStateException" v) τ 9 [(0, .ref (x0)), (1, .int (x1))] [] σ := by
  intro n
  induction n with
  | zero => intro x0 x1 σ hm; unfold L_X0_flushCache_9 at hm; cases hm
  | succ n ih =>
    intro x0 x1 σ hm
    unfold L_X0_flushCache_9 at hm
    obtain ⟨rc9, hrc⟩ : ∃ z, z = L_X0_flushCache_9 b0 fu  n := ⟨_, rfl⟩
    replace hm := ltb_e hm hrc
    rw [← hrc] at ih
    have hrc9 := ih
    clear ih hrc
    refine zx_iload_n C dX0_flushCache_9 1 rfl ?_
    refine zx_if_le C 23 dX0_flushCache_10 (by decide) (fun c9 => ?_) (fun c9 => ?_)
    · replace hm := ip_e hm c9
      refine zx_aload_n C dX0_flushCache_23 0 rfl ?_
      refine zx_dup C dX0_flushCache_24 rfl ?_
      obtain ⟨k10, i11, hm⟩ := ckO_e hm
      refine zx_get (j := 12) C tC_0 k10 i11 ⟨by decide, Or.inl W_1_49⟩ dX0_flushCache_25 (.int (tI (σ) (x0) 12)) rfl ?_
      refine zx_iconst (v := 1) C dX0_flushCache_28 (by decide) ?_
      refine zx_iadd C dX0_flushCache_29 ?_
      refine zx_put (j := 12) (ρ := sI (σ) (x0) 12 ((tI (σ) (x0) 12) + (1))) C tC_0 k10 i11 ⟨by decide, Or.inl W_1_49⟩ rfl rfl rfl (sI_ok (fun _ => rfl)) dX0_flushCache_30 ?_
      obtain ⟨rfl, rfl⟩ := ret_e hm
      exact zx_vret C rfl rfl rfl dX0_flushCache_33
    · replace hm := in_e hm c9
      refine zx_aload_n C dX0_flushCache_13 0 rfl ?_
      obtain ⟨k12, i13, hm⟩ := ckO_e hm
      obtain ⟨v14, ρ15, h16, hm⟩ := cll_e hm
      refine zx_callV (σ := σ) C [] tC_0 k12 i13 Y_X0_keepOldest W_3_208 W_3_210 Wp_13 (c_X0_keepOldest h16) (by decide) (by decide) rfl (Nat.le_of_ble_eq_true rfl) dX0_flushCache_14 rfl ?_
      obtain ⟨y17, hy17⟩ : ∃ z : Int32, z = (x1) + Int32.ofInt (-1) := ⟨_, rfl⟩
      replace hm := ltb_e hm hy17
      refine zx_iinc C [(1, .int (y17)), (0, .ref (x0))] dX0_flushCache_17 1 rfl hy17.symm (by decide) rfl ?_
      refine zx_goto C 9 dX0_flushCache_20 (by decide) ?_
      exact zx_lv [1, 0] [(0, .ref (x0)), (1, .int (y17))] rfl (hrc9 _ _ _ hm)
set_option maxRecDepth 100000 in
set_option maxHeartbeats 1000000 in
theorem c_X0_flushCache {l : Launch} {D : va_G} {aC : Nat → ClassId} {b0 fu : Nat} {a0 : Nat} {σ τ : tM} {v : (Unit) ⊕ Unit} (hm : m_X0_flushCache b0 fu a0 σ = some (v, τ)) : tMt l D aC b0 yX0_flushCache (Cond.code yX0_flushCache cX0_flushCache 2 none) 7 110 [.ref (a0)] σ (rxV "java/lang/IllegalStateException" v) τ := by
  unfold m_X0_flushCache at hm
  obtain ⟨hg, hm⟩ := grw_e hm
  refine tMt_of (n := 0) rfl (Nat.le_of_ble_eq_true rfl) hg ?_
  intro p e s m below meth c C htab hin
  refine zx_lv [0] [(0, .ref (a0))] rfl ?_
  refine zx_aload_n C dX0_flushCache_0 0 rfl ?_
  obtain ⟨k1, i2, hm⟩ := ckO_e hm
  rcases clx_e hm with ⟨v3, ρ4, h5, hm⟩ | ⟨ρ4, h5, hm⟩
  · refine zx_callV (σ := σ) C [] tC_0 k1 i2 Y_X0_act W_3_199 W_3_201 Wp_12 (c_X0_act h5) (by decide) (by decide) rfl (Nat.le_of_ble_eq_true rfl) dX0_flushCache_1 rfl ?_
    refine zx_aload_n C dX0_flushCache_4 0 rfl ?_
    obtain ⟨k6, i7, hm⟩ := ckO_e hm
    refine zx_get (j := 10) C tC_0 k6 i7 ⟨by decide, Or.inl W_1_46⟩ dX0_flushCache_5 (.int (tI (ρ4) (a0) 10)) rfl ?_
    refine zx_topi (fun y8 hy8 => ?_)
    replace hm := ltb_e hm hy8
    refine zx_istore_n C [(1, .int (y8)), (0, .ref (a0))] dX0_flushCache_8 rfl (by decide) rfl ?_
    exact zx_lv [1, 0] [(0, .ref (a0)), (1, .int (y8))] rfl (l_X0_flushCache_9 C htab hin  _ _ _ _ hm)
  · cases hm
    exact zx_outV (σ := σ) C htab [] tC_0 k1 i2 Y_X0_act W_3_199 W_3_201 Wp_12 (c_X0_act h5) rfl (by decide) (by decide) rfl (Nat.le_of_ble_eq_true rfl) dX0_flushCache_1 rfl
abbrev cX1_restart : ByteArray := prog_3_method_4_code
def yX1_restart : MethodName := ⟨"SyncTree$Journal", "restart", "(I)V"⟩
theorem Y_X1_restart : tY yX1_restart cX1_restart 2 none 1 := ⟨W_2_171, W_1_5, ⟨by decide +kernel, by decide +kernel⟩, by decide +kernel⟩
theorem dX1_restart_0 : decode cX1_restart 0 = .ok (.aload_n 0, 1) := by decide +kernel
theorem dX1_restart_1 : decode cX1_restart 1 = .ok (.iload_n 1, 1) := by decide +kernel
theorem dX1_restart_2 : decode cX1_restart 2 = .ok (.putfield 66, 3) := by decide +kernel
theorem dX1_restart_5 : decode cX1_restart 5 = .ok (.aload_n 0, 1) := by decide +kernel
theorem dX1_restart_6 : decode cX1_restart 6 = .ok (.iload_n 1, 1) := by decide +kernel
theorem dX1_restart_7 : decode cX1_restart 7 = .ok (.putfield 69, 3) := by decide +kernel
theorem dX1_restart_10 : decode cX1_restart 10 = .ok (.aload_n 0, 1) := by decide +kernel
theorem dX1_restart_11 : decode cX1_restart 11 = .ok (.iload_n 1, 1) := by decide +kernel
theorem dX1_restart_12 : decode cX1_restart 12 = .ok (.putfield 72, 3) := by decide +kernel
theorem dX1_restart_15 : decode cX1_restart 15 = .ok (.aload_n 0, 1) := by decide +kernel
theorem dX1_restart_16 : decode cX1_restart 16 = .ok (.iload_n 1, 1) := by decide +kernel
theorem dX1_restart_17 : decode cX1_restart 17 = .ok (.putfield 75, 3) := by decide +kernel
theorem dX1_restart_20 : decode cX1_restart 20 = .ok (.aload_n 0, 1) := by decide +kernel
theorem dX1_restart_21 : decode cX1_restart 21 = .ok (.iload_n 1, 1) := by decide +kernel
theorem dX1_restart_22 : decode cX1_restart 22 = .ok (.putfield 78, 3) := by decide +kernel
theorem dX1_restart_25 : decode cX1_restart 25 = .ok (.aload_n 0, 1) := by decide +kernel
theorem dX1_restart_26 : decode cX1_restart 26 = .ok (.iconst 0, 1) := by decide +kernel
theorem dX1_restart_27 : decode cX1_restart 27 = .ok (.putfield 81, 3) := by decide +kernel
theorem dX1_restart_30 : decode cX1_restart 30 = .ok (.aload_n 0, 1) := by decide +kernel
theorem dX1_restart_31 : decode cX1_restart 31 = .ok (.aload_n 0, 1) := by decide +kernel
theorem dX1_restart_32 : decode cX1_restart 32 = .ok (.getfield 49, 3) := by decide +kernel
theorem dX1_restart_35 : decode cX1_restart 35 = .ok (.putfield 84, 3) := by decide +kernel
theorem dX1_restart_38 : decode cX1_restart 38 = .ok (.aload_n 0, 1) := by decide +kernel
theorem dX1_restart_39 : decode cX1_restart 39 = .ok (.getfield 25, 3) := by decide +kernel
theorem dX1_restart_42 : decode cX1_restart 42 = .ok (.iload_n 1, 1) := by decide +kernel
theorem dX1_restart_43 : decode cX1_restart 43 = .ok (.iconst 1, 1) := by decide +kernel
theorem dX1_restart_44 : decode cX1_restart 44 = .ok (.iadd, 1) := by decide +kernel
theorem dX1_restart_45 : decode cX1_restart 45 = .ok (.invokevirtual 87, 3) := by decide +kernel
theorem dX1_restart_48 : decode cX1_restart 48 = .ok (.aload_n 0, 1) := by decide +kernel
theorem dX1_restart_49 : decode cX1_restart 49 = .ok (.getfield 29, 3) := by decide +kernel
theorem dX1_restart_52 : decode cX1_restart 52 = .ok (.invokevirtual 90, 3) := by decide +kernel
theorem dX1_restart_55 : decode cX1_restart 55 = .ok (.return_, 1) := by decide +kernel
def m_X1_restart (b0 fu : Nat) (a0 : Nat) (p0 : Int32) (σ : tM) : Option ((Unit) × tM) := grw σ (ckO b0 (σ) (a0) 1 (osm (tA (sI (sI (sI (sI (sI (sI (sI (σ) (a0) 12 (p0)) (a0) 13 (p0)) (a0) 14 (p0)) (a0) 15 (p0)) (a0) 16 (p0)) (a0) 9 (0)) (a0) 10 (tI (sI (sI (sI (sI (sI (sI (σ) (a0) 12 (p0)) (a0) 13 (p0)) (a0) 14 (p0)) (a0) 15 (p0)) (a0) 16 (p0)) (a0) 9 (0)) (a0) 11)) (a0) 1) (fun a3 => ckO b0 (sI (sI (sI (sI (sI (sI (sI (σ) (a0) 12 (p0)) (a0) 13 (p0)) (a0) 14 (p0)) (a0) 15 (p0)) (a0) 16 (p0)) (a0) 9 (0)) (a0) 10 (tI (sI (sI (sI (sI (sI (sI (σ) (a0) 12 (p0)) (a0) 13 (p0)) (a0) 14 (p0)) (a0) 15 (p0)) (a0) 16 (p0)) (a0) 9 (0)) (a0) 11)) (a3) 5 (cll (m_X5_emptyGroup b0 fu (a3) ((p0) + (1)) (sI (sI (sI (sI (sI (sI (sI (σ) (a0) 12 (p0)) (a0) 13 (p0)) (a0) 14 (p0)) (a0) 15 (p0)) (a0) 16 (p0)) (a0) 9 (0)) (a0) 10 (tI (sI (sI (sI (sI (sI (sI (σ) (a0) 12 (p0)) (a0) 13 (p0)) (a0) 14 (p0)) (a0) 15 (p0)) (a0) 16 (p0)) (a0) 9 (0)) (a0) 11))) (fun v7 ρ8 => ckO b0 (ρ8) (a0) 1 (osm (tA (ρ8) (a0) 2) (fun a12 => ckO b0 (ρ8) (a12) 8 (cll (m_X8_forgetChanges b0 fu (a12) (ρ8)) (fun v16 ρ17 => some ((), ρ17))))))))))
set_option maxRecDepth 100000 in
set_option maxHeartbeats 1000000 in
theorem c_X1_restart {l : Launch} {D : va_G} {aC : Nat → ClassId} {b0 fu : Nat} {a0 : Nat} {p0 : Int32} {σ τ : tM} {v : Unit} (hm : m_X1_restart b0 fu a0 p0 σ = some (v, τ)) : tMt l D aC b0 yX1_restart (Cond.code yX1_restart cX1_restart 2 none) 2 43 [.ref (a0), .int (p0)] σ (.inl none) τ := by
  unfold m_X1_restart at hm
  obtain ⟨hg, hm⟩ := grw_e hm
  refine tMt_of (n := 0) rfl (Nat.le_of_ble_eq_true rfl) hg ?_
  intro p e s m below meth c C htab hin
  refine zx_lv [0, 1] [(0, .ref (a0)), (1, .int (p0))] rfl ?_
  refine zx_aload_n C dX1_restart_0 0 rfl ?_
  refine zx_iload_n C dX1_restart_1 1 rfl ?_
  obtain ⟨k1, i2, hm⟩ := ckO_e hm
  refine zx_put (j := 12) (ρ := sI (σ) (a0) 12 (p0)) C tC_1 k1 i2 ⟨by decide, Or.inl W_1_192⟩ rfl rfl rfl (sI_ok (fun _ => rfl)) dX1_restart_2 ?_
  refine zx_aload_n C dX1_restart_5 0 rfl ?_
  refine zx_iload_n C dX1_restart_6 1 rfl ?_
  refine zx_put (j := 13) (ρ := sI (sI (σ) (a0) 12 (p0)) (a0) 13 (p0)) C tC_1 k1 i2 ⟨by decide, Or.inl W_1_193⟩ rfl rfl rfl (sI_ok (fun _ => rfl)) dX1_restart_7 ?_
  refine zx_aload_n C dX1_restart_10 0 rfl ?_
  refine zx_iload_n C dX1_restart_11 1 rfl ?_
  refine zx_put (j := 14) (ρ := sI (sI (sI (σ) (a0) 12 (p0)) (a0) 13 (p0)) (a0) 14 (p0)) C tC_1 k1 i2 ⟨by decide, Or.inl W_1_194⟩ rfl rfl rfl (sI_ok (fun _ => rfl)) dX1_restart_12 ?_
  refine zx_aload_n C dX1_restart_15 0 rfl ?_
  refine zx_iload_n C dX1_restart_16 1 rfl ?_
  refine zx_put (j := 15) (ρ := sI (sI (sI (sI (σ) (a0) 12 (p0)) (a0) 13 (p0)) (a0) 14 (p0)) (a0) 15 (p0)) C tC_1 k1 i2 ⟨by decide, Or.inl W_1_195⟩ rfl rfl rfl (sI_ok (fun _ => rfl)) dX1_restart_17 ?_
  refine zx_aload_n C dX1_restart_20 0 rfl ?_
  refine zx_iload_n C dX1_restart_21 1 rfl ?_
  refine zx_put (j := 16) (ρ := sI (sI (sI (sI (sI (σ) (a0) 12 (p0)) (a0) 13 (p0)) (a0) 14 (p0)) (a0) 15 (p0)) (a0) 16 (p0)) C tC_1 k1 i2 ⟨by decide, Or.inl W_1_196⟩ rfl rfl rfl (sI_ok (fun _ => rfl)) dX1_restart_22 ?_
  refine zx_aload_n C dX1_restart_25 0 rfl ?_
  refine zx_iconst (v := 0) C dX1_restart_26 (by decide) ?_
  refine zx_put (j := 9) (ρ := sI (sI (sI (sI (sI (sI (σ) (a0) 12 (p0)) (a0) 13 (p0)) (a0) 14 (p0)) (a0) 15 (p0)) (a0) 16 (p0)) (a0) 9 (0)) C tC_1 k1 i2 ⟨by decide, Or.inl W_1_189⟩ rfl rfl rfl (sI_ok (fun _ => rfl)) dX1_restart_27 ?_
  refine zx_aload_n C dX1_restart_30 0 rfl ?_
  refine zx_aload_n C dX1_restart_31 0 rfl ?_
  refine zx_get (j := 11) C tC_1 k1 i2 ⟨by decide, Or.inl W_1_191⟩ dX1_restart_32 (.int (tI (sI (sI (sI (sI (sI (sI (σ) (a0) 12 (p0)) (a0) 13 (p0)) (a0) 14 (p0)) (a0) 15 (p0)) (a0) 16 (p0)) (a0) 9 (0)) (a0) 11)) rfl ?_
  refine zx_put (j := 10) (ρ := sI (sI (sI (sI (sI (sI (sI (σ) (a0) 12 (p0)) (a0) 13 (p0)) (a0) 14 (p0)) (a0) 15 (p0)) (a0) 16 (p0)) (a0) 9 (0)) (a0) 10 (tI (sI (sI (sI (sI (sI (sI (σ) (a0) 12 (p0)) (a0) 13 (p0)) (a0) 14 (p0)) (a0) 15 (p0)) (a0) 16 (p0)) (a0) 9 (0)) (a0) 11)) C tC_1 k1 i2 ⟨by decide, Or.inl W_1_190⟩ rfl rfl rfl (sI_ok (fun _ => rfl)) dX1_restart_35 ?_
  refine zx_aload_n C dX1_restart_38 0 rfl ?_
  obtain ⟨a3, h4, hm⟩ := osm_e hm
  refine zx_get (j := 1) C tC_1 k1 i2 ⟨by decide, Or.inl W_1_181⟩ dX1_restart_39 (.ref a3) (rf_s h4) ?_
  refine zx_iload_n C dX1_restart_42 1 rfl ?_
  refine zx_iconst (v := 1) C dX1_restart_43 (by decide) ?_
  refine zx_iadd C dX1_restart_44 ?_
  obtain ⟨k5, i6, hm⟩ := ckO_e hm
  obtain ⟨v7, ρ8, h9, hm⟩ := cll_e hm
  refine zx_callV (σ := sI (sI (sI (sI (sI (sI (sI (σ) (a0) 12 (p0)) (a0) 13 (p0)) (a0) 14 (p0)) (a0) 15 (p0)) (a0) 16 (p0)) (a0) 9 (0)) (a0) 10 (tI (sI (sI (sI (sI (sI (sI (σ) (a0) 12 (p0)) (a0) 13 (p0)) (a0) 14 (p0)) (a0) 15 (p0)) (a0) 16 (p0)) (a0) 9 (0)) (a0) 11)) C [.int ((p0) + (1))] tC_5 k5 i6 Y_X5_emptyGroup W_2_172 W_2_124 W_2_125 (c_X5_emptyGroup h9) (by decide) (by decide) rfl (Nat.le_of_ble_eq_true rfl) dX1_restart_45 rfl ?_
  refine zx_aload_n C dX1_restart_48 0 rfl ?_
  obtain ⟨k10, i11, hm⟩ := ckO_e hm
  obtain ⟨a12, h13, hm⟩ := osm_e hm
  refine zx_get (j := 2) C tC_1 k10 i11 ⟨by decide, Or.inl W_1_182⟩ dX1_restart_49 (.ref a12) (rf_s h13) ?_
  obtain ⟨k14, i15, hm⟩ := ckO_e hm
  obtain ⟨v16, ρ17, h18, hm⟩ := cll_e hm
  refine zx_callV (σ := ρ8) C [] tC_8 k14 i15 Y_X8_forgetChanges W_2_173 W_2_174 W_2_175 (c_X8_forgetChanges h18) (by decide) (by decide) rfl (Nat.le_of_ble_eq_true rfl) dX1_restart_52 rfl ?_
  obtain ⟨rfl, rfl⟩ := ret_e hm
  exact zx_vret C rfl rfl rfl dX1_restart_55
