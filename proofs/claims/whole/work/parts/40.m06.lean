abbrev cX12_walkAhead : ByteArray := prog_13_method_60_code
def yX12_walkAhead : MethodName := ⟨"SyncTreeModel", "walkAhead", "(I)I"⟩
theorem Y_X12_walkAhead : tY yX12_walkAhead cX12_walkAhead 7 (some .int) 1 := ⟨W_8_27, W_1_14, ⟨by decide +kernel, by decide +kernel⟩, by decide +kernel⟩
theorem dX12_walkAhead_0 : decode cX12_walkAhead 0 = .ok (.aload_n 0, 1) := by decide +kernel
theorem dX12_walkAhead_1 : decode cX12_walkAhead 1 = .ok (.getfield 323, 3) := by decide +kernel
theorem dX12_walkAhead_4 : decode cX12_walkAhead 4 = .ok (.iload_n 1, 1) := by decide +kernel
theorem dX12_walkAhead_5 : decode cX12_walkAhead 5 = .ok (.aaload, 1) := by decide +kernel
theorem dX12_walkAhead_6 : decode cX12_walkAhead 6 = .ok (.astore_n 2, 1) := by decide +kernel
theorem dX12_walkAhead_7 : decode cX12_walkAhead 7 = .ok (.aload_n 0, 1) := by decide +kernel
theorem dX12_walkAhead_8 : decode cX12_walkAhead 8 = .ok (.getfield 346, 3) := by decide +kernel
theorem dX12_walkAhead_11 : decode cX12_walkAhead 11 = .ok (.iload_n 1, 1) := by decide +kernel
theorem dX12_walkAhead_12 : decode cX12_walkAhead 12 = .ok (.iaload, 1) := by decide +kernel
theorem dX12_walkAhead_13 : decode cX12_walkAhead 13 = .ok (.istore_n 3, 1) := by decide +kernel
theorem dX12_walkAhead_14 : decode cX12_walkAhead 14 = .ok (.iload_n 3, 1) := by decide +kernel
theorem dX12_walkAhead_15 : decode cX12_walkAhead 15 = .ok (.ifCond .le 19, 3) := by decide +kernel
theorem dX12_walkAhead_18 : decode cX12_walkAhead 18 = .ok (.aload_n 2, 1) := by decide +kernel
theorem dX12_walkAhead_19 : decode cX12_walkAhead 19 = .ok (.iload_n 3, 1) := by decide +kernel
theorem dX12_walkAhead_20 : decode cX12_walkAhead 20 = .ok (.iconst 1, 1) := by decide +kernel
theorem dX12_walkAhead_21 : decode cX12_walkAhead 21 = .ok (.isub, 1) := by decide +kernel
theorem dX12_walkAhead_22 : decode cX12_walkAhead 22 = .ok (.baload, 1) := by decide +kernel
theorem dX12_walkAhead_23 : decode cX12_walkAhead 23 = .ok (.bipush 47, 2) := by decide +kernel
theorem dX12_walkAhead_25 : decode cX12_walkAhead 25 = .ok (.if_icmp .ne 9, 3) := by decide +kernel
theorem dX12_walkAhead_28 : decode cX12_walkAhead 28 = .ok (.iinc 3 (-1), 3) := by decide +kernel
theorem dX12_walkAhead_31 : decode cX12_walkAhead 31 = .ok (.goto (-17), 3) := by decide +kernel
theorem dX12_walkAhead_34 : decode cX12_walkAhead 34 = .ok (.iload_n 3, 1) := by decide +kernel
theorem dX12_walkAhead_35 : decode cX12_walkAhead 35 = .ok (.istore 4, 2) := by decide +kernel
theorem dX12_walkAhead_37 : decode cX12_walkAhead 37 = .ok (.iload 4, 2) := by decide +kernel
theorem dX12_walkAhead_39 : decode cX12_walkAhead 39 = .ok (.ifCond .le 20, 3) := by decide +kernel
theorem dX12_walkAhead_42 : decode cX12_walkAhead 42 = .ok (.aload_n 2, 1) := by decide +kernel
theorem dX12_walkAhead_43 : decode cX12_walkAhead 43 = .ok (.iload 4, 2) := by decide +kernel
theorem dX12_walkAhead_45 : decode cX12_walkAhead 45 = .ok (.iconst 1, 1) := by decide +kernel
theorem dX12_walkAhead_46 : decode cX12_walkAhead 46 = .ok (.isub, 1) := by decide +kernel
theorem dX12_walkAhead_47 : decode cX12_walkAhead 47 = .ok (.baload, 1) := by decide +kernel
theorem dX12_walkAhead_48 : decode cX12_walkAhead 48 = .ok (.bipush 47, 2) := by decide +kernel
theorem dX12_walkAhead_50 : decode cX12_walkAhead 50 = .ok (.if_icmp .eq 9, 3) := by decide +kernel
theorem dX12_walkAhead_53 : decode cX12_walkAhead 53 = .ok (.iinc 4 (-1), 3) := by decide +kernel
theorem dX12_walkAhead_56 : decode cX12_walkAhead 56 = .ok (.goto (-19), 3) := by decide +kernel
theorem dX12_walkAhead_59 : decode cX12_walkAhead 59 = .ok (.aload_n 0, 1) := by decide +kernel
theorem dX12_walkAhead_60 : decode cX12_walkAhead 60 = .ok (.iload_n 3, 1) := by decide +kernel
theorem dX12_walkAhead_61 : decode cX12_walkAhead 61 = .ok (.iload 4, 2) := by decide +kernel
theorem dX12_walkAhead_63 : decode cX12_walkAhead 63 = .ok (.isub, 1) := by decide +kernel
theorem dX12_walkAhead_64 : decode cX12_walkAhead 64 = .ok (.putfield 355, 3) := by decide +kernel
theorem dX12_walkAhead_67 : decode cX12_walkAhead 67 = .ok (.aload_n 2, 1) := by decide +kernel
theorem dX12_walkAhead_68 : decode cX12_walkAhead 68 = .ok (.iload 4, 2) := by decide +kernel
theorem dX12_walkAhead_70 : decode cX12_walkAhead 70 = .ok (.aload_n 0, 1) := by decide +kernel
theorem dX12_walkAhead_71 : decode cX12_walkAhead 71 = .ok (.getfield 358, 3) := by decide +kernel
theorem dX12_walkAhead_74 : decode cX12_walkAhead 74 = .ok (.iconst 0, 1) := by decide +kernel
theorem dX12_walkAhead_75 : decode cX12_walkAhead 75 = .ok (.aload_n 0, 1) := by decide +kernel
theorem dX12_walkAhead_76 : decode cX12_walkAhead 76 = .ok (.getfield 355, 3) := by decide +kernel
theorem dX12_walkAhead_79 : decode cX12_walkAhead 79 = .ok (.invokestatic 7, 3) := by decide +kernel
theorem dX12_walkAhead_82 : decode cX12_walkAhead 82 = .ok (.aload_n 0, 1) := by decide +kernel
theorem dX12_walkAhead_83 : decode cX12_walkAhead 83 = .ok (.iload_n 1, 1) := by decide +kernel
theorem dX12_walkAhead_84 : decode cX12_walkAhead 84 = .ok (.iload 4, 2) := by decide +kernel
theorem dX12_walkAhead_86 : decode cX12_walkAhead 86 = .ok (.invokevirtual 349, 3) := by decide +kernel
theorem dX12_walkAhead_89 : decode cX12_walkAhead 89 = .ok (.aload_n 0, 1) := by decide +kernel
theorem dX12_walkAhead_90 : decode cX12_walkAhead 90 = .ok (.iconst 1, 1) := by decide +kernel
theorem dX12_walkAhead_91 : decode cX12_walkAhead 91 = .ok (.invokevirtual 352, 3) := by decide +kernel
theorem dX12_walkAhead_94 : decode cX12_walkAhead 94 = .ok (.istore 5, 2) := by decide +kernel
theorem dX12_walkAhead_96 : decode cX12_walkAhead 96 = .ok (.iload 5, 2) := by decide +kernel
theorem dX12_walkAhead_98 : decode cX12_walkAhead 98 = .ok (.ifCond .ge 6, 3) := by decide +kernel
theorem dX12_walkAhead_101 : decode cX12_walkAhead 101 = .ok (.iload 5, 2) := by decide +kernel
theorem dX12_walkAhead_103 : decode cX12_walkAhead 103 = .ok (.ireturn, 1) := by decide +kernel
theorem dX12_walkAhead_104 : decode cX12_walkAhead 104 = .ok (.aload_n 0, 1) := by decide +kernel
theorem dX12_walkAhead_105 : decode cX12_walkAhead 105 = .ok (.getfield 355, 3) := by decide +kernel
theorem dX12_walkAhead_108 : decode cX12_walkAhead 108 = .ok (.iconst 1, 1) := by decide +kernel
theorem dX12_walkAhead_109 : decode cX12_walkAhead 109 = .ok (.if_icmp .ne 14, 3) := by decide +kernel
theorem dX12_walkAhead_112 : decode cX12_walkAhead 112 = .ok (.aload_n 0, 1) := by decide +kernel
theorem dX12_walkAhead_113 : decode cX12_walkAhead 113 = .ok (.getfield 358, 3) := by decide +kernel
theorem dX12_walkAhead_116 : decode cX12_walkAhead 116 = .ok (.iconst 0, 1) := by decide +kernel
theorem dX12_walkAhead_117 : decode cX12_walkAhead 117 = .ok (.baload, 1) := by decide +kernel
theorem dX12_walkAhead_118 : decode cX12_walkAhead 118 = .ok (.bipush 46, 2) := by decide +kernel
theorem dX12_walkAhead_120 : decode cX12_walkAhead 120 = .ok (.if_icmp .eq 33, 3) := by decide +kernel
theorem dX12_walkAhead_123 : decode cX12_walkAhead 123 = .ok (.aload_n 0, 1) := by decide +kernel
theorem dX12_walkAhead_124 : decode cX12_walkAhead 124 = .ok (.getfield 355, 3) := by decide +kernel
theorem dX12_walkAhead_127 : decode cX12_walkAhead 127 = .ok (.iconst 2, 1) := by decide +kernel
theorem dX12_walkAhead_128 : decode cX12_walkAhead 128 = .ok (.if_icmp .ne 29, 3) := by decide +kernel
theorem dX12_walkAhead_131 : decode cX12_walkAhead 131 = .ok (.aload_n 0, 1) := by decide +kernel
theorem dX12_walkAhead_132 : decode cX12_walkAhead 132 = .ok (.getfield 358, 3) := by decide +kernel
theorem dX12_walkAhead_135 : decode cX12_walkAhead 135 = .ok (.iconst 0, 1) := by decide +kernel
theorem dX12_walkAhead_136 : decode cX12_walkAhead 136 = .ok (.baload, 1) := by decide +kernel
theorem dX12_walkAhead_137 : decode cX12_walkAhead 137 = .ok (.bipush 46, 2) := by decide +kernel
theorem dX12_walkAhead_139 : decode cX12_walkAhead 139 = .ok (.if_icmp .ne 18, 3) := by decide +kernel
theorem dX12_walkAhead_142 : decode cX12_walkAhead 142 = .ok (.aload_n 0, 1) := by decide +kernel
theorem dX12_walkAhead_143 : decode cX12_walkAhead 143 = .ok (.getfield 358, 3) := by decide +kernel
theorem dX12_walkAhead_146 : decode cX12_walkAhead 146 = .ok (.iconst 1, 1) := by decide +kernel
theorem dX12_walkAhead_147 : decode cX12_walkAhead 147 = .ok (.baload, 1) := by decide +kernel
theorem dX12_walkAhead_148 : decode cX12_walkAhead 148 = .ok (.bipush 46, 2) := by decide +kernel
theorem dX12_walkAhead_150 : decode cX12_walkAhead 150 = .ok (.if_icmp .ne 7, 3) := by decide +kernel
theorem dX12_walkAhead_153 : decode cX12_walkAhead 153 = .ok (.iconst 1, 1) := by decide +kernel
theorem dX12_walkAhead_154 : decode cX12_walkAhead 154 = .ok (.goto 4, 3) := by decide +kernel
theorem dX12_walkAhead_157 : decode cX12_walkAhead 157 = .ok (.iconst 0, 1) := by decide +kernel
theorem dX12_walkAhead_158 : decode cX12_walkAhead 158 = .ok (.istore 6, 2) := by decide +kernel
theorem dX12_walkAhead_160 : decode cX12_walkAhead 160 = .ok (.aload_n 0, 1) := by decide +kernel
theorem dX12_walkAhead_161 : decode cX12_walkAhead 161 = .ok (.getfield 355, 3) := by decide +kernel
theorem dX12_walkAhead_164 : decode cX12_walkAhead 164 = .ok (.ifCond .eq 8, 3) := by decide +kernel
theorem dX12_walkAhead_167 : decode cX12_walkAhead 167 = .ok (.iload 6, 2) := by decide +kernel
theorem dX12_walkAhead_169 : decode cX12_walkAhead 169 = .ok (.ifCond .eq 6, 3) := by decide +kernel
theorem dX12_walkAhead_172 : decode cX12_walkAhead 172 = .ok (.bipush (-9), 2) := by decide +kernel
theorem dX12_walkAhead_174 : decode cX12_walkAhead 174 = .ok (.ireturn, 1) := by decide +kernel
theorem dX12_walkAhead_175 : decode cX12_walkAhead 175 = .ok (.aload_n 0, 1) := by decide +kernel
theorem dX12_walkAhead_176 : decode cX12_walkAhead 176 = .ok (.iload 5, 2) := by decide +kernel
theorem dX12_walkAhead_178 : decode cX12_walkAhead 178 = .ok (.iconst 0, 1) := by decide +kernel
theorem dX12_walkAhead_179 : decode cX12_walkAhead 179 = .ok (.invokevirtual 247, 3) := by decide +kernel
theorem dX12_walkAhead_182 : decode cX12_walkAhead 182 = .ok (.iconst 2, 1) := by decide +kernel
theorem dX12_walkAhead_183 : decode cX12_walkAhead 183 = .ok (.if_icmp .ne 8, 3) := by decide +kernel
theorem dX12_walkAhead_186 : decode cX12_walkAhead 186 = .ok (.iload 5, 2) := by decide +kernel
theorem dX12_walkAhead_188 : decode cX12_walkAhead 188 = .ok (.goto 5, 3) := by decide +kernel
theorem dX12_walkAhead_191 : decode cX12_walkAhead 191 = .ok (.bipush (-3), 2) := by decide +kernel
theorem dX12_walkAhead_193 : decode cX12_walkAhead 193 = .ok (.ireturn, 1) := by decide +kernel
def J_X12_walkAhead_172 (b0 fu : Nat)   (σ : tM) : Option ((Int32) × tM) := some ((-9), σ)
def J_X12_walkAhead_193 (b0 fu : Nat)  (s0 : Int32) (σ : tM) : Option ((Int32) × tM) := some (s0, σ)
def J_X12_walkAhead_158 (b0 fu : Nat)  (x0 : Nat) (x5 : Int32) (s0 : Int32) (σ : tM) : Option ((Int32) × tM) := ckO b0 (σ) (x0) 11 (if (tI (σ) (x0) 53) = (0) then J_X12_walkAhead_172 b0 fu    (σ) else if (s0) = (0) then cll (m_X12_node b0 fu (x0) (x5) (0) (σ)) (fun v57 ρ58 => if (v57) = (2) then J_X12_walkAhead_193 b0 fu   (x5) (ρ58) else J_X12_walkAhead_193 b0 fu   ((-3)) (ρ58)) else J_X12_walkAhead_172 b0 fu    (σ))
def J_X12_walkAhead_157 (b0 fu : Nat)  (x0 : Nat) (x5 : Int32) (σ : tM) : Option ((Int32) × tM) := J_X12_walkAhead_158 b0 fu   (x0) (x5) (0) (σ)
def J_X12_walkAhead_153 (b0 fu : Nat)  (x0 : Nat) (x5 : Int32) (σ : tM) : Option ((Int32) × tM) := J_X12_walkAhead_158 b0 fu   (x0) (x5) (1) (σ)
def J_X12_walkAhead_123 (b0 fu : Nat)  (x0 : Nat) (x5 : Int32) (σ : tM) : Option ((Int32) × tM) := ckO b0 (σ) (x0) 11 (if (tI (σ) (x0) 53) = (2) then osm (tA (σ) (x0) 52) (fun a61 => ckR b0 (σ) (a61) 1 (fun n65 => ckI (0) (n65) (if (tI (σ) (a61) (((0 : Int32)).toNatClampNeg)) = (46) then osm (tA (σ) (x0) 52) (fun a68 => ckR b0 (σ) (a68) 1 (fun n72 => ckI (1) (n72) (if (tI (σ) (a68) (((1 : Int32)).toNatClampNeg)) = (46) then J_X12_walkAhead_153 b0 fu   (x0) (x5) (σ) else J_X12_walkAhead_157 b0 fu   (x0) (x5) (σ)))) else J_X12_walkAhead_157 b0 fu   (x0) (x5) (σ)))) else J_X12_walkAhead_157 b0 fu   (x0) (x5) (σ))
def J_X12_walkAhead_59 (b0 fu : Nat)  (x0 : Nat) (x1 : Int32) (x2 : Nat) (x3 : Int32) (x4 : Int32) (σ : tM) : Option ((Int32) × tM) := ckO b0 (σ) (x0) 11 (osm (tA (sI (σ) (x0) 53 ((x3) - (x4))) (x0) 52) (fun a22 => ckR b0 (sI (σ) (x0) 53 ((x3) - (x4))) (x2) 1 (fun n26 => ckR b0 (sI (σ) (x0) 53 ((x3) - (x4))) (a22) 1 (fun n29 => ckC (x4) (0) (tI (sI (σ) (x0) 53 ((x3) - (x4))) (x0) 53) (n26) (n29) (ckF (tI (sI (σ) (x0) 53 ((x3) - (x4))) (x2)) (x4) (tI (sI (σ) (x0) 53 ((x3) - (x4))) (x0) 53) (ltb (sIr (sI (σ) (x0) 53 ((x3) - (x4))) (a22) (va_cpy (tI (sI (σ) (x0) 53 ((x3) - (x4))) (x2)) (tI (sI (σ) (x0) 53 ((x3) - (x4))) (a22)) ((x4).toNatClampNeg) (((0 : Int32)).toNatClampNeg) ((tI (sI (σ) (x0) 53 ((x3) - (x4))) (x0) 53).toNatClampNeg))) (fun ρ31 => cll (m_X12_begin b0 fu (x0) (x1) (x4) (ρ31)) (fun v38 ρ39 => ckO b0 (ρ39) (x0) 11 (cll (m_X12_walk b0 fu (x0) (1) (ρ39)) (fun v43 ρ44 => if (0) ≤ (v43) then ckO b0 (ρ44) (x0) 11 (if (tI (ρ44) (x0) 53) = (1) then osm (tA (ρ44) (x0) 52) (fun a75 => ckR b0 (ρ44) (a75) 1 (fun n79 => ckI (0) (n79) (if (tI (ρ44) (a75) (((0 : Int32)).toNatClampNeg)) = (46) then J_X12_walkAhead_153 b0 fu   (x0) (v43) (ρ44) else J_X12_walkAhead_123 b0 fu   (x0) (v43) (ρ44)))) else J_X12_walkAhead_123 b0 fu   (x0) (v43) (ρ44)) else some (v43, ρ44)))))))))))
def L_X12_walkAhead_37 (b0 fu : Nat)  : Nat → Nat → Int32 → Nat → Int32 → Int32 → tM → Option ((Int32) × tM)
  | 0, _, _, _, _, _, _ => none
  | n + 1, x0, x1, x2, x3, x4, σ => ltb (L_X12_walkAhead_37 b0 fu  n) (fun rc37 => if (x4) ≤ (0) then J_X12_walkAhead_59 b0 fu   (x0) (x1) (x2) (x3) (x4) (σ) else ckR b0 (σ) (x2) 1 (fun n85 => ckI ((x4) - (1)) (n85) (if (tI (σ) (x2) (((x4) - (1)).toNatClampNeg)) = (47) then J_X12_walkAhead_59 b0 fu   (x0) (x1) (x2) (x3) (x4) (σ) else ltb ((x4) + Int32.ofInt (-1)) (fun y88 => rc37 (x0) (x1) (x2) (x3) (y88) (σ)))))
def J_X12_walkAhead_34 (b0 fu : Nat)  (x0 : Nat) (x1 : Int32) (x2 : Nat) (x3 : Int32) (σ : tM) : Option ((Int32) × tM) := L_X12_walkAhead_37 b0 fu  (fu) (x0) (x1) (x2) (x3) (x3) (σ)
def L_X12_walkAhead_14 (b0 fu : Nat)  : Nat → Nat → Int32 → Nat → Int32 → tM → Option ((Int32) × tM)
  | 0, _, _, _, _, _ => none
  | n + 1, x0, x1, x2, x3, σ => ltb (L_X12_walkAhead_14 b0 fu  n) (fun rc14 => if (x3) ≤ (0) then J_X12_walkAhead_34 b0 fu   (x0) (x1) (x2) (x3) (σ) else ckR b0 (σ) (x2) 1 (fun n91 => ckI ((x3) - (1)) (n91) (if (tI (σ) (x2) (((x3) - (1)).toNatClampNeg)) = (47) then ltb ((x3) + Int32.ofInt (-1)) (fun y94 => rc14 (x0) (x1) (x2) (y94) (σ)) else J_X12_walkAhead_34 b0 fu   (x0) (x1) (x2) (x3) (σ))))
def m_X12_walkAhead (b0 fu : Nat) (a0 : Nat) (p0 : Int32) (σ : tM) : Option ((Int32) × tM) := grw σ (ckO b0 (σ) (a0) 11 (osm (tA (σ) (a0) 47) (fun a3 => ckR b0 (σ) (a3) 5 (fun n7 => ckI (p0) (n7) (osm (tA (σ) (a3) ((p0).toNatClampNeg)) (fun a9 => osm (tA (σ) (a0) 48) (fun a11 => ckR b0 (σ) (a11) 0 (fun n15 => ckI (p0) (n15) (ltb ((tI (σ) (a11) ((p0).toNatClampNeg) : Int32)) (fun y17 => L_X12_walkAhead_14 b0 fu  (fu) (a0) (p0) (a9) (y17) (σ)))))))))))
set_option maxRecDepth 100000 in
set_option maxHeartbeats 1000000 in
theorem j_X12_walkAhead_172 {p : Program} {l : Launch} {e : Env} {s : State} {m : MethodId} {args : Array Value} {below : List Frame} {meth : Method} {c : Code} {D : va_G} {aC : Nat → ClassId} {b0 fu : Nat} {σ0 τ : tM} {v : Int32}  (C : tCx p l s m args meth c yX12_walkAhead.cls cX12_walkAhead 7 (some .int) D aC b0 σ0) (htab : ∀ x ∈ c.exceptionTable.toList, False) (hin : meth.name = yX12_walkAhead.name)   {σ : tM} (hm : J_X12_walkAhead_172 b0 fu   σ = some (v, τ)) : tX p l e s m args below meth c 7 8 193 D aC b0 σ0 (.inl (some (.int v))) τ 172 [] [] σ := by
  unfold J_X12_walkAhead_172 at hm
  refine zx_bipush (v := (-9)) C dX12_walkAhead_172 (by decide) ?_
  obtain ⟨rfl, rfl⟩ := ret_e hm
  exact zx_iret C rfl rfl rfl dX12_walkAhead_174
set_option maxRecDepth 100000 in
set_option maxHeartbeats 1000000 in
theorem j_X12_walkAhead_193 {p : Program} {l : Launch} {e : Env} {s : State} {m : MethodId} {args : Array Value} {below : List Frame} {meth : Method} {c : Code} {D : va_G} {aC : Nat → ClassId} {b0 fu : Nat} {σ0 τ : tM} {v : Int32}  (C : tCx p l s m args meth c yX12_walkAhead.cls cX12_walkAhead 7 (some .int) D aC b0 σ0) (htab : ∀ x ∈ c.exceptionTable.toList, False) (hin : meth.name = yX12_walkAhead.name)  {s0 : Int32} {σ : tM} (hm : J_X12_walkAhead_193 b0 fu  s0 σ = some (v, τ)) : tX p l e s m args below meth c 7 8 193 D aC b0 σ0 (.inl (some (.int v))) τ 193 [] [.int (s0)] σ := by
  unfold J_X12_walkAhead_193 at hm
  obtain ⟨rfl, rfl⟩ := ret_e hm
  exact zx_iret C rfl rfl rfl dX12_walkAhead_193
set_option maxRecDepth 100000 in
set_option maxHeartbeats 1000000 in
theorem j_X12_walkAhead_158 {p : Program} {l : Launch} {e : Env} {s : State} {m : MethodId} {args : Array Value} {below : List Frame} {meth : Method} {c : Code} {D : va_G} {aC : Nat → ClassId} {b0 fu : Nat} {σ0 τ : tM} {v : Int32}  (C : tCx p l s m args meth c yX12_walkAhead.cls cX12_walkAhead 7 (some .int) D aC b0 σ0) (htab : ∀ x ∈ c.exceptionTable.toList, False) (hin : meth.name = yX12_walkAhead.name)  {x0 : Nat} {x5 : Int32} {s0 : Int32} {σ : tM} (hm : J_X12_walkAhead_158 b0 fu  x0 x5 s0 σ = some (v, τ)) : tX p l e s m args below meth c 7 8 193 D aC b0 σ0 (.inl (some (.int v))) τ 158 [(0, .ref (x0)), (5, .int (x5))] [.int (s0)] σ := by
  unfold J_X12_walkAhead_158 at hm
  refine zx_istore C [(6, .int (s0)), (0, .ref (x0)), (5, .int (x5))] dX12_walkAhead_158 (by decide) rfl ?_
  refine zx_aload_n C dX12_walkAhead_160 1 rfl ?_
  obtain ⟨k53, i54, hm⟩ := ckO_e hm
  refine zx_get (j := 53) C tC_11 k53 i54 ⟨by decide, Or.inl W_7_32⟩ dX12_walkAhead_161 (.int (tI (σ) (x0) 53)) rfl ?_
  refine zx_if_eq C 172 dX12_walkAhead_164 (by decide) (fun c55 => ?_) (fun c55 => ?_)
  · replace hm := ip_e hm c55
    exact zx_lv [] [] rfl (j_X12_walkAhead_172 C htab hin    hm)
  · replace hm := in_e hm c55
    refine zx_iload C dX12_walkAhead_167 0 rfl ?_
    refine zx_if_eq C 175 dX12_walkAhead_169 (by decide) (fun c56 => ?_) (fun c56 => ?_)
    · replace hm := ip_e hm c56
      refine zx_aload_n C dX12_walkAhead_175 1 rfl ?_
      refine zx_iload C dX12_walkAhead_176 2 rfl ?_
      refine zx_iconst (v := 0) C dX12_walkAhead_178 (by decide) ?_
      obtain ⟨v57, ρ58, h59, hm⟩ := cll_e hm
      refine zx_callV (σ := σ) C [.int (x5), .int (0)] tC_11 k53 i54 Y_X12_node W_8_40 W_8_42 Wp_80 (c_X12_node h59) (by decide) (by decide) rfl (Nat.le_of_ble_eq_true rfl) dX12_walkAhead_179 rfl ?_
      refine zx_iconst (v := 2) C dX12_walkAhead_182 (by decide) ?_
      refine zx_icmp_ne C 191 dX12_walkAhead_183 (by decide) (fun c60 => ?_) (fun c60 => ?_)
      · replace hm := in_e hm c60
        refine zx_bipush (v := (-3)) C dX12_walkAhead_191 (by decide) ?_
        exact zx_lv [] [] rfl (j_X12_walkAhead_193 C htab hin    hm)
      · replace hm := ip_e hm c60
        refine zx_iload C dX12_walkAhead_186 2 rfl ?_
        refine zx_goto C 193 dX12_walkAhead_188 (by decide) ?_
        exact zx_lv [] [] rfl (j_X12_walkAhead_193 C htab hin    hm)
    · replace hm := in_e hm c56
      exact zx_lv [] [] rfl (j_X12_walkAhead_172 C htab hin    hm)
set_option maxRecDepth 100000 in
set_option maxHeartbeats 1000000 in
theorem j_X12_walkAhead_157 {p : Program} {l : Launch} {e : Env} {s : State} {m : MethodId} {args : Array Value} {below : List Frame} {meth : Method} {c : Code} {D : va_G} {aC : Nat → ClassId} {b0 fu : Nat} {σ0 τ : tM} {v : Int32}  (C : tCx p l s m args meth c yX12_walkAhead.cls cX12_walkAhead 7 (some .int) D aC b0 σ0) (htab : ∀ x ∈ c.exceptionTable.toList, False) (hin : meth.name = yX12_walkAhead.name)  {x0 : Nat} {x5 : Int32} {σ : tM} (hm : J_X12_walkAhead_157 b0 fu  x0 x5 σ = some (v, τ)) : tX p l e s m args below meth c 7 8 193 D aC b0 σ0 (.inl (some (.int v))) τ 157 [(0, .ref (x0)), (5, .int (x5))] [] σ := by
  unfold J_X12_walkAhead_157 at hm
  refine zx_iconst (v := 0) C dX12_walkAhead_157 (by decide) ?_
  exact zx_lv [0, 1] [(0, .ref (x0)), (5, .int (x5))] rfl (j_X12_walkAhead_158 C htab hin    hm)
set_option maxRecDepth 100000 in
set_option maxHeartbeats 1000000 in
theorem j_X12_walkAhead_153 {p : Program} {l : Launch} {e : Env} {s : State} {m : MethodId} {args : Array Value} {below : List Frame} {meth : Method} {c : Code} {D : va_G} {aC : Nat → ClassId} {b0 fu : Nat} {σ0 τ : tM} {v : Int32}  (C : tCx p l s m args meth c yX12_walkAhead.cls cX12_walkAhead 7 (some .int) D aC b0 σ0) (htab : ∀ x ∈ c.exceptionTable.toList, False) (hin : meth.name = yX12_walkAhead.name)  {x0 : Nat} {x5 : Int32} {σ : tM} (hm : J_X12_walkAhead_153 b0 fu  x0 x5 σ = some (v, τ)) : tX p l e s m args below meth c 7 8 193 D aC b0 σ0 (.inl (some (.int v))) τ 153 [(0, .ref (x0)), (5, .int (x5))] [] σ := by
  unfold J_X12_walkAhead_153 at hm
  refine zx_iconst (v := 1) C dX12_walkAhead_153 (by decide) ?_
  refine zx_goto C 158 dX12_walkAhead_154 (by decide) ?_
  exact zx_lv [0, 1] [(0, .ref (x0)), (5, .int (x5))] rfl (j_X12_walkAhead_158 C htab hin    hm)
set_option maxRecDepth 100000 in
set_option maxHeartbeats 1000000 in
theorem j_X12_walkAhead_123 {p : Program} {l : Launch} {e : Env} {s : State} {m : MethodId} {args : Array Value} {below : List Frame} {meth : Method} {c : Code} {D : va_G} {aC : Nat → ClassId} {b0 fu : Nat} {σ0 τ : tM} {v : Int32}  (C : tCx p l s m args meth c yX12_walkAhead.cls cX12_walkAhead 7 (some .int) D aC b0 σ0) (htab : ∀ x ∈ c.exceptionTable.toList, False) (hin : meth.name = yX12_walkAhead.name)  {x0 : Nat} {x5 : Int32} {σ : tM} (hm : J_X12_walkAhead_123 b0 fu  x0 x5 σ = some (v, τ)) : tX p l e s m args below meth c 7 8 193 D aC b0 σ0 (.inl (some (.int v))) τ 123 [(0, .ref (x0)), (5, .int (x5))] [] σ := by
  unfold J_X12_walkAhead_123 at hm
  refine zx_aload_n C dX12_walkAhead_123 0 rfl ?_
  obtain ⟨k50, i51, hm⟩ := ckO_e hm
  refine zx_get (j := 53) C tC_11 k50 i51 ⟨by decide, Or.inl W_7_32⟩ dX12_walkAhead_124 (.int (tI (σ) (x0) 53)) rfl ?_
  refine zx_iconst (v := 2) C dX12_walkAhead_127 (by decide) ?_
  refine zx_icmp_ne C 157 dX12_walkAhead_128 (by decide) (fun c52 => ?_) (fun c52 => ?_)
  · replace hm := in_e hm c52
    exact zx_lv [0, 1] [(0, .ref (x0)), (5, .int (x5))] rfl (j_X12_walkAhead_157 C htab hin    hm)
  · replace hm := ip_e hm c52
    refine zx_aload_n C dX12_walkAhead_131 0 rfl ?_
    obtain ⟨a61, h62, hm⟩ := osm_e hm
    refine zx_get (j := 52) C tC_11 k50 i51 ⟨by decide, Or.inl W_7_31⟩ dX12_walkAhead_132 (.ref a61) (rf_s h62) ?_
    refine zx_iconst (v := 0) C dX12_walkAhead_135 (by decide) ?_
    obtain ⟨n65, k63, i64, hm⟩ := ckR_e hm
    obtain ⟨h66, hm⟩ := ckI_e hm
    refine zx_bald C k63 i64 h66 dX12_walkAhead_136 ?_
    refine zx_bipush (v := 46) C dX12_walkAhead_137 (by decide) ?_
    refine zx_icmp_ne C 157 dX12_walkAhead_139 (by decide) (fun c67 => ?_) (fun c67 => ?_)
    · replace hm := in_e hm c67
      exact zx_lv [0, 1] [(0, .ref (x0)), (5, .int (x5))] rfl (j_X12_walkAhead_157 C htab hin    hm)
    · replace hm := ip_e hm c67
      refine zx_aload_n C dX12_walkAhead_142 0 rfl ?_
      obtain ⟨a68, h69, hm⟩ := osm_e hm
      refine zx_get (j := 52) C tC_11 k50 i51 ⟨by decide, Or.inl W_7_31⟩ dX12_walkAhead_143 (.ref a68) (rf_s h69) ?_
      refine zx_iconst (v := 1) C dX12_walkAhead_146 (by decide) ?_
      obtain ⟨n72, k70, i71, hm⟩ := ckR_e hm
      obtain ⟨h73, hm⟩ := ckI_e hm
      refine zx_bald C k70 i71 h73 dX12_walkAhead_147 ?_
      refine zx_bipush (v := 46) C dX12_walkAhead_148 (by decide) ?_
      refine zx_icmp_ne C 157 dX12_walkAhead_150 (by decide) (fun c74 => ?_) (fun c74 => ?_)
      · replace hm := in_e hm c74
        exact zx_lv [0, 1] [(0, .ref (x0)), (5, .int (x5))] rfl (j_X12_walkAhead_157 C htab hin    hm)
      · replace hm := ip_e hm c74
        exact zx_lv [0, 1] [(0, .ref (x0)), (5, .int (x5))] rfl (j_X12_walkAhead_153 C htab hin    hm)
set_option maxRecDepth 100000 in
set_option maxHeartbeats 1000000 in
theorem j_X12_walkAhead_59 {p : Program} {l : Launch} {e : Env} {s : State} {m : MethodId} {args : Array Value} {below : List Frame} {meth : Method} {c : Code} {D : va_G} {aC : Nat → ClassId} {b0 fu : Nat} {σ0 τ : tM} {v : Int32}  (C : tCx p l s m args meth c yX12_walkAhead.cls cX12_walkAhead 7 (some .int) D aC b0 σ0) (htab : ∀ x ∈ c.exceptionTable.toList, False) (hin : meth.name = yX12_walkAhead.name)  {x0 : Nat} {x1 : Int32} {x2 : Nat} {x3 : Int32} {x4 : Int32} {σ : tM} (hm : J_X12_walkAhead_59 b0 fu  x0 x1 x2 x3 x4 σ = some (v, τ)) : tX p l e s m args below meth c 7 8 193 D aC b0 σ0 (.inl (some (.int v))) τ 59 [(0, .ref (x0)), (1, .int (x1)), (2, .ref (x2)), (3, .int (x3)), (4, .int (x4))] [] σ := by
  unfold J_X12_walkAhead_59 at hm
  refine zx_aload_n C dX12_walkAhead_59 0 rfl ?_
  refine zx_iload_n C dX12_walkAhead_60 3 rfl ?_
  refine zx_iload C dX12_walkAhead_61 4 rfl ?_
  refine zx_isub C dX12_walkAhead_63 ?_
  obtain ⟨k20, i21, hm⟩ := ckO_e hm
  refine zx_put (j := 53) (ρ := sI (σ) (x0) 53 ((x3) - (x4))) C tC_11 k20 i21 ⟨by decide, Or.inl W_7_32⟩ rfl rfl rfl (sI_ok (fun _ => rfl)) dX12_walkAhead_64 ?_
  refine zx_aload_n C dX12_walkAhead_67 2 rfl ?_
  refine zx_iload C dX12_walkAhead_68 4 rfl ?_
  refine zx_aload_n C dX12_walkAhead_70 0 rfl ?_
  obtain ⟨a22, h23, hm⟩ := osm_e hm
  refine zx_get (j := 52) C tC_11 k20 i21 ⟨by decide, Or.inl W_7_31⟩ dX12_walkAhead_71 (.ref a22) (rf_s h23) ?_
  refine zx_iconst (v := 0) C dX12_walkAhead_74 (by decide) ?_
  refine zx_aload_n C dX12_walkAhead_75 0 rfl ?_
  refine zx_get (j := 53) C tC_11 k20 i21 ⟨by decide, Or.inl W_7_32⟩ dX12_walkAhead_76 (.int (tI (sI (σ) (x0) 53 ((x3) - (x4))) (x0) 53)) rfl ?_
  obtain ⟨n26, k24, i25, hm⟩ := ckR_e hm
  obtain ⟨n29, k27, i28, hm⟩ := ckR_e hm
  obtain ⟨h30, hm⟩ := ckC_e hm
  obtain ⟨h82, hm⟩ := ckF_e hm
  refine zx_copyB (σ := sI (σ) (x0) 53 ((x3) - (x4))) C W_7_169 W_2_135 W_2_134 W_1_11 k24 i25 k27 i28 h30 h82 (by decide) (by decide) (Nat.le_of_ble_eq_true rfl) dX12_walkAhead_79 ?_
  refine zx_mem (fun ρ31 hρ31 => ?_)
  replace hm := ltb_e hm hρ31
  have k32 : tk ρ31 (x0) = .inl 11 := by rw [hρ31]; exact k20
  have i33 : tIn b0 ρ31 (x0) := by rw [hρ31]; exact i21
  have k34 : tk ρ31 (x2) = .inr (1, n26) := by rw [hρ31]; exact k24
  have i35 : tIn b0 ρ31 (x2) := by rw [hρ31]; exact i25
  have k36 : tk ρ31 (a22) = .inr (1, n29) := by rw [hρ31]; exact k27
  have i37 : tIn b0 ρ31 (a22) := by rw [hρ31]; exact i28
  refine zx_aload_n C dX12_walkAhead_82 0 rfl ?_
  refine zx_iload_n C dX12_walkAhead_83 1 rfl ?_
  refine zx_iload C dX12_walkAhead_84 4 rfl ?_
  obtain ⟨v38, ρ39, h40, hm⟩ := cll_e hm
  refine zx_callV (σ := ρ31) C [.int (x1), .int (x4)] tC_11 k32 i33 Y_X12_begin W_8_28 W_8_30 Wp_77 (c_X12_begin h40) (by decide) (by decide) rfl (Nat.le_of_ble_eq_true rfl) dX12_walkAhead_86 rfl ?_
  refine zx_aload_n C dX12_walkAhead_89 0 rfl ?_
  refine zx_iconst (v := 1) C dX12_walkAhead_90 (by decide) ?_
  obtain ⟨k41, i42, hm⟩ := ckO_e hm
  obtain ⟨v43, ρ44, h45, hm⟩ := cll_e hm
  refine zx_callV (σ := ρ39) C [.int (1)] tC_11 k41 i42 Y_X12_walk W_8_32 W_8_34 Wp_78 (c_X12_walk h45) (by decide) (by decide) rfl (Nat.le_of_ble_eq_true rfl) dX12_walkAhead_91 rfl ?_
  refine zx_istore C [(5, .int (v43)), (0, .ref (x0)), (1, .int (x1)), (2, .ref (x2)), (3, .int (x3)), (4, .int (x4))] dX12_walkAhead_94 (by decide) rfl ?_
  refine zx_iload C dX12_walkAhead_96 0 rfl ?_
  refine zx_if_ge C 104 dX12_walkAhead_98 (by decide) (fun c46 => ?_) (fun c46 => ?_)
  · replace hm := ip_e hm c46
    refine zx_aload_n C dX12_walkAhead_104 1 rfl ?_
    obtain ⟨k47, i48, hm⟩ := ckO_e hm
    refine zx_get (j := 53) C tC_11 k47 i48 ⟨by decide, Or.inl W_7_32⟩ dX12_walkAhead_105 (.int (tI (ρ44) (x0) 53)) rfl ?_
    refine zx_iconst (v := 1) C dX12_walkAhead_108 (by decide) ?_
    refine zx_icmp_ne C 123 dX12_walkAhead_109 (by decide) (fun c49 => ?_) (fun c49 => ?_)
    · replace hm := in_e hm c49
      exact zx_lv [1, 0] [(0, .ref (x0)), (5, .int (v43))] rfl (j_X12_walkAhead_123 C htab hin    hm)
    · replace hm := ip_e hm c49
      refine zx_aload_n C dX12_walkAhead_112 1 rfl ?_
      obtain ⟨a75, h76, hm⟩ := osm_e hm
      refine zx_get (j := 52) C tC_11 k47 i48 ⟨by decide, Or.inl W_7_31⟩ dX12_walkAhead_113 (.ref a75) (rf_s h76) ?_
      refine zx_iconst (v := 0) C dX12_walkAhead_116 (by decide) ?_
      obtain ⟨n79, k77, i78, hm⟩ := ckR_e hm
      obtain ⟨h80, hm⟩ := ckI_e hm
      refine zx_bald C k77 i78 h80 dX12_walkAhead_117 ?_
      refine zx_bipush (v := 46) C dX12_walkAhead_118 (by decide) ?_
      refine zx_icmp_eq C 153 dX12_walkAhead_120 (by decide) (fun c81 => ?_) (fun c81 => ?_)
      · replace hm := ip_e hm c81
        exact zx_lv [1, 0] [(0, .ref (x0)), (5, .int (v43))] rfl (j_X12_walkAhead_153 C htab hin    hm)
      · replace hm := in_e hm c81
        exact zx_lv [1, 0] [(0, .ref (x0)), (5, .int (v43))] rfl (j_X12_walkAhead_123 C htab hin    hm)
  · replace hm := in_e hm c46
    refine zx_iload C dX12_walkAhead_101 0 rfl ?_
    obtain ⟨rfl, rfl⟩ := ret_e hm
    exact zx_iret C rfl rfl rfl dX12_walkAhead_103
set_option maxRecDepth 100000 in
set_option maxHeartbeats 1000000 in
theorem l_X12_walkAhead_37 {p : Program} {l : Launch} {e : Env} {s : State} {m : MethodId} {args : Array Value} {below : List Frame} {meth : Method} {c : Code} {D : va_G} {aC : Nat → ClassId} {b0 fu : Nat} {σ0 τ : tM} {v : Int32}  (C : tCx p l s m args meth c yX12_walkAhead.cls cX12_walkAhead 7 (some .int) D aC b0 σ0) (htab : ∀ x ∈ c.exceptionTable.toList, False) (hin : meth.name = yX12_walkAhead.name)  : ∀ (n : Nat) (x0 : Nat) (x1 : Int32) (x2 : Nat) (x3 : Int32) (x4 : Int32) (σ : tM), L_X12_walkAhead_37 b0 fu  n x0 x1 x2 x3 x4 σ = some (v, τ) → tX p l e s m args below meth c 7 8 193 D aC b0 σ0 (.inl (some (.int v))) τ 37 [(0, .ref (x0)), (1, .int (x1)), (2, .ref (x2)), (3, .int (x3)), (4, .int (x4))] [] σ := by
  intro n
  induction n with
  | zero => intro x0 x1 x2 x3 x4 σ hm; unfold L_X12_walkAhead_37 at hm; cases hm
  | succ n ih =>
    intro x0 x1 x2 x3 x4 σ hm
    unfold L_X12_walkAhead_37 at hm
    obtain ⟨rc37, hrc⟩ : ∃ z, z = L_X12_walkAhead_37 b0 fu  n := ⟨_, rfl⟩
    replace hm := ltb_e hm hrc
    rw [← hrc] at ih
    have hrc37 := ih
    clear ih hrc
    refine zx_iload C dX12_walkAhead_37 4 rfl ?_
    refine zx_if_le C 59 dX12_walkAhead_39 (by decide) (fun c19 => ?_) (fun c19 => ?_)
    · replace hm := ip_e hm c19
      exact zx_lv [0, 1, 2, 3, 4] [(0, .ref (x0)), (1, .int (x1)), (2, .ref (x2)), (3, .int (x3)), (4, .int (x4))] rfl (j_X12_walkAhead_59 C htab hin    hm)
    · replace hm := in_e hm c19
      refine zx_aload_n C dX12_walkAhead_42 2 rfl ?_
      refine zx_iload C dX12_walkAhead_43 4 rfl ?_
      refine zx_iconst (v := 1) C dX12_walkAhead_45 (by decide) ?_
      refine zx_isub C dX12_walkAhead_46 ?_
      obtain ⟨n85, k83, i84, hm⟩ := ckR_e hm
      obtain ⟨h86, hm⟩ := ckI_e hm
      refine zx_bald C k83 i84 h86 dX12_walkAhead_47 ?_
      refine zx_bipush (v := 47) C dX12_walkAhead_48 (by decide) ?_
      refine zx_icmp_eq C 59 dX12_walkAhead_50 (by decide) (fun c87 => ?_) (fun c87 => ?_)
      · replace hm := ip_e hm c87
        exact zx_lv [0, 1, 2, 3, 4] [(0, .ref (x0)), (1, .int (x1)), (2, .ref (x2)), (3, .int (x3)), (4, .int (x4))] rfl (j_X12_walkAhead_59 C htab hin    hm)
      · replace hm := in_e hm c87
        obtain ⟨y88, hy88⟩ : ∃ z : Int32, z = (x4) + Int32.ofInt (-1) := ⟨_, rfl⟩
        replace hm := ltb_e hm hy88
        refine zx_iinc C [(4, .int (y88)), (0, .ref (x0)), (1, .int (x1)), (2, .ref (x2)), (3, .int (x3))] dX12_walkAhead_53 4 rfl hy88.symm (by decide) rfl ?_
        refine zx_goto C 37 dX12_walkAhead_56 (by decide) ?_
        exact zx_lv [1, 2, 3, 4, 0] [(0, .ref (x0)), (1, .int (x1)), (2, .ref (x2)), (3, .int (x3)), (4, .int (y88))] rfl (hrc37 _ _ _ _ _ _ hm)
set_option maxRecDepth 100000 in
set_option maxHeartbeats 1000000 in
theorem j_X12_walkAhead_34 {p : Program} {l : Launch} {e : Env} {s : State} {m : MethodId} {args : Array Value} {below : List Frame} {meth : Method} {c : Code} {D : va_G} {aC : Nat → ClassId} {b0 fu : Nat} {σ0 τ : tM} {v : Int32}  (C : tCx p l s m args meth c yX12_walkAhead.cls cX12_walkAhead 7 (some .int) D aC b0 σ0) (htab : ∀ x ∈ c.exceptionTable.toList, False) (hin : meth.name = yX12_walkAhead.name)  {x0 : Nat} {x1 : Int32} {x2 : Nat} {x3 : Int32} {σ : tM} (hm : J_X12_walkAhead_34 b0 fu  x0 x1 x2 x3 σ = some (v, τ)) : tX p l e s m args below meth c 7 8 193 D aC b0 σ0 (.inl (some (.int v))) τ 34 [(0, .ref (x0)), (1, .int (x1)), (2, .ref (x2)), (3, .int (x3))] [] σ := by
  unfold J_X12_walkAhead_34 at hm
  refine zx_iload_n C dX12_walkAhead_34 3 rfl ?_
  refine zx_istore C [(4, .int (x3)), (0, .ref (x0)), (1, .int (x1)), (2, .ref (x2)), (3, .int (x3))] dX12_walkAhead_35 (by decide) rfl ?_
  exact zx_lv [1, 2, 3, 4, 0] [(0, .ref (x0)), (1, .int (x1)), (2, .ref (x2)), (3, .int (x3)), (4, .int (x3))] rfl (l_X12_walkAhead_37 C htab hin  _ _ _ _ _ _ _ hm)
set_option maxRecDepth 100000 in
set_option maxHeartbeats 1000000 in
theorem l_X12_walkAhead_14 {p : Program} {l : Launch} {e : Env} {s : State} {m : MethodId} {args : Array Value} {below : List Frame} {meth : Method} {c : Code} {D : va_G} {aC : Nat → ClassId} {b0 fu : Nat} {σ0 τ : tM} {v : Int32}  (C : tCx p l s m args meth c yX12_walkAhead.cls cX12_walkAhead 7 (some .int) D aC b0 σ0) (htab : ∀ x ∈ c.exceptionTable.toList, False) (hin : meth.name = yX12_walkAhead.name)  : ∀ (n : Nat) (x0 : Nat) (x1 : Int32) (x2 : Nat) (x3 : Int32) (σ : tM), L_X12_walkAhead_14 b0 fu  n x0 x1 x2 x3 σ = some (v, τ) → tX p l e s m args below meth c 7 8 193 D aC b0 σ0 (.inl (some (.int v))) τ 14 [(0, .ref (x0)), (1, .int (x1)), (2, .ref (x2)), (3, .int (x3))] [] σ := by
  intro n
  induction n with
  | zero => intro x0 x1 x2 x3 σ hm; unfold L_X12_walkAhead_14 at hm; cases hm
  | succ n ih =>
    intro x0 x1 x2 x3 σ hm
    unfold L_X12_walkAhead_14 at hm
    obtain ⟨rc14, hrc⟩ : ∃ z, z = L_X12_walkAhead_14 b0 fu  n := ⟨_, rfl⟩
    replace hm := ltb_e hm hrc
    rw [← hrc] at ih
    have hrc14 := ih
    clear ih hrc
    refine zx_iload_n C dX12_walkAhead_14 3 rfl ?_
    refine zx_if_le C 34 dX12_walkAhead_15 (by decide) (fun c18 => ?_) (fun c18 => ?_)
    · replace hm := ip_e hm c18
      exact zx_lv [0, 1, 2, 3] [(0, .ref (x0)), (1, .int (x1)), (2, .ref (x2)), (3, .int (x3))] rfl (j_X12_walkAhead_34 C htab hin    hm)
    · replace hm := in_e hm c18
      refine zx_aload_n C dX12_walkAhead_18 2 rfl ?_
      refine zx_iload_n C dX12_walkAhead_19 3 rfl ?_
      refine zx_iconst (v := 1) C dX12_walkAhead_20 (by decide) ?_
      refine zx_isub C dX12_walkAhead_21 ?_
      obtain ⟨n91, k89, i90, hm⟩ := ckR_e hm
      obtain ⟨h92, hm⟩ := ckI_e hm
      refine zx_bald C k89 i90 h92 dX12_walkAhead_22 ?_
      refine zx_bipush (v := 47) C dX12_walkAhead_23 (by decide) ?_
      refine zx_icmp_ne C 34 dX12_walkAhead_25 (by decide) (fun c93 => ?_) (fun c93 => ?_)
      · replace hm := in_e hm c93
        exact zx_lv [0, 1, 2, 3] [(0, .ref (x0)), (1, .int (x1)), (2, .ref (x2)), (3, .int (x3))] rfl (j_X12_walkAhead_34 C htab hin    hm)
      · replace hm := ip_e hm c93
        obtain ⟨y94, hy94⟩ : ∃ z : Int32, z = (x3) + Int32.ofInt (-1) := ⟨_, rfl⟩
        replace hm := ltb_e hm hy94
        refine zx_iinc C [(3, .int (y94)), (0, .ref (x0)), (1, .int (x1)), (2, .ref (x2))] dX12_walkAhead_28 3 rfl hy94.symm (by decide) rfl ?_
        refine zx_goto C 14 dX12_walkAhead_31 (by decide) ?_
        exact zx_lv [1, 2, 3, 0] [(0, .ref (x0)), (1, .int (x1)), (2, .ref (x2)), (3, .int (y94))] rfl (hrc14 _ _ _ _ _ hm)
set_option maxRecDepth 100000 in
set_option maxHeartbeats 1000000 in
theorem c_X12_walkAhead {l : Launch} {D : va_G} {aC : Nat → ClassId} {b0 fu : Nat} {a0 : Nat} {p0 : Int32} {σ τ : tM} {v : Int32} (hm : m_X12_walkAhead b0 fu a0 p0 σ = some (v, τ)) : tMt l D aC b0 yX12_walkAhead (Cond.code yX12_walkAhead cX12_walkAhead 7 (some .int)) 8 193 [.ref (a0), .int (p0)] σ (.inl (some (.int v))) τ := by
  unfold m_X12_walkAhead at hm
  obtain ⟨hg, hm⟩ := grw_e hm
  refine tMt_of (n := 0) rfl (Nat.le_of_ble_eq_true rfl) hg ?_
  intro p e s m below meth c C htab hin
  refine zx_lv [0, 1] [(0, .ref (a0)), (1, .int (p0))] rfl ?_
  refine zx_aload_n C dX12_walkAhead_0 0 rfl ?_
  obtain ⟨k1, i2, hm⟩ := ckO_e hm
  obtain ⟨a3, h4, hm⟩ := osm_e hm
  refine zx_get (j := 47) C tC_11 k1 i2 ⟨by decide, Or.inl W_7_26⟩ dX12_walkAhead_1 (.ref a3) (rf_s h4) ?_
  refine zx_iload_n C dX12_walkAhead_4 1 rfl ?_
  obtain ⟨n7, k5, i6, hm⟩ := ckR_e hm
  obtain ⟨h8, hm⟩ := ckI_e hm
  obtain ⟨a9, h10, hm⟩ := osm_e hm
  refine zx_aald5 C k5 i6 h8 dX12_walkAhead_5 (.ref a9) (rf_s h10) ?_
  refine zx_astore_n C [(2, .ref (a9)), (0, .ref (a0)), (1, .int (p0))] dX12_walkAhead_6 rfl (by decide) rfl ?_
  refine zx_aload_n C dX12_walkAhead_7 1 rfl ?_
  obtain ⟨a11, h12, hm⟩ := osm_e hm
  refine zx_get (j := 48) C tC_11 k1 i2 ⟨by decide, Or.inl W_7_27⟩ dX12_walkAhead_8 (.ref a11) (rf_s h12) ?_
  refine zx_iload_n C dX12_walkAhead_11 2 rfl ?_
  obtain ⟨n15, k13, i14, hm⟩ := ckR_e hm
  obtain ⟨h16, hm⟩ := ckI_e hm
  refine zx_iald C k13 i14 h16 dX12_walkAhead_12 ?_
  refine zx_topi (fun y17 hy17 => ?_)
  replace hm := ltb_e hm hy17
  refine zx_istore_n C [(3, .int (y17)), (2, .ref (a9)), (0, .ref (a0)), (1, .int (p0))] dX12_walkAhead_13 rfl (by decide) rfl ?_
  exact zx_lv [2, 3, 1, 0] [(0, .ref (a0)), (1, .int (p0)), (2, .ref (a9)), (3, .int (y17))] rfl (l_X12_walkAhead_14 C htab hin  _ _ _ _ _ _ hm)
abbrev cX12_isWhole : ByteArray := prog_13_method_61_code
def yX12_isWhole : MethodName := ⟨"SyncTreeModel", "isWhole", "(I)Z"⟩
theorem Y_X12_isWhole : tY yX12_isWhole cX12_isWhole 5 (some .boolean) 1 := ⟨W_9_105, W_1_14, ⟨by decide +kernel, by decide +kernel⟩, by decide +kernel⟩
theorem dX12_isWhole_0 : decode cX12_isWhole 0 = .ok (.iload_n 1, 1) := by decide +kernel
theorem dX12_isWhole_1 : decode cX12_isWhole 1 = .ok (.aload_n 0, 1) := by decide +kernel
theorem dX12_isWhole_2 : decode cX12_isWhole 2 = .ok (.getfield 128, 3) := by decide +kernel
theorem dX12_isWhole_5 : decode cX12_isWhole 5 = .ok (.isub, 1) := by decide +kernel
theorem dX12_isWhole_6 : decode cX12_isWhole 6 = .ok (.iconst 1, 1) := by decide +kernel
theorem dX12_isWhole_7 : decode cX12_isWhole 7 = .ok (.isub, 1) := by decide +kernel
theorem dX12_isWhole_8 : decode cX12_isWhole 8 = .ok (.istore_n 2, 1) := by decide +kernel
theorem dX12_isWhole_9 : decode cX12_isWhole 9 = .ok (.iload_n 2, 1) := by decide +kernel
theorem dX12_isWhole_10 : decode cX12_isWhole 10 = .ok (.aload_n 0, 1) := by decide +kernel
theorem dX12_isWhole_11 : decode cX12_isWhole 11 = .ok (.getfield 137, 3) := by decide +kernel
theorem dX12_isWhole_14 : decode cX12_isWhole 14 = .ok (.if_icmp .lt 5, 3) := by decide +kernel
theorem dX12_isWhole_17 : decode cX12_isWhole 17 = .ok (.iconst 0, 1) := by decide +kernel
theorem dX12_isWhole_18 : decode cX12_isWhole 18 = .ok (.ireturn, 1) := by decide +kernel
theorem dX12_isWhole_19 : decode cX12_isWhole 19 = .ok (.iconst 0, 1) := by decide +kernel
theorem dX12_isWhole_20 : decode cX12_isWhole 20 = .ok (.istore_n 3, 1) := by decide +kernel
theorem dX12_isWhole_21 : decode cX12_isWhole 21 = .ok (.iload_n 3, 1) := by decide +kernel
theorem dX12_isWhole_22 : decode cX12_isWhole 22 = .ok (.aload_n 0, 1) := by decide +kernel
theorem dX12_isWhole_23 : decode cX12_isWhole 23 = .ok (.getfield 125, 3) := by decide +kernel
theorem dX12_isWhole_26 : decode cX12_isWhole 26 = .ok (.iload_n 2, 1) := by decide +kernel
theorem dX12_isWhole_27 : decode cX12_isWhole 27 = .ok (.iaload, 1) := by decide +kernel
theorem dX12_isWhole_28 : decode cX12_isWhole 28 = .ok (.if_icmp .ge 56, 3) := by decide +kernel
theorem dX12_isWhole_31 : decode cX12_isWhole 31 = .ok (.bipush 34, 2) := by decide +kernel
theorem dX12_isWhole_33 : decode cX12_isWhole 33 = .ok (.aload_n 0, 1) := by decide +kernel
theorem dX12_isWhole_34 : decode cX12_isWhole 34 = .ok (.getfield 143, 3) := by decide +kernel
theorem dX12_isWhole_37 : decode cX12_isWhole 37 = .ok (.iload_n 2, 1) := by decide +kernel
theorem dX12_isWhole_38 : decode cX12_isWhole 38 = .ok (.iaload, 1) := by decide +kernel
theorem dX12_isWhole_39 : decode cX12_isWhole 39 = .ok (.iload_n 3, 1) := by decide +kernel
theorem dX12_isWhole_40 : decode cX12_isWhole 40 = .ok (.iadd, 1) := by decide +kernel
theorem dX12_isWhole_41 : decode cX12_isWhole 41 = .ok (.aload_n 0, 1) := by decide +kernel
theorem dX12_isWhole_42 : decode cX12_isWhole 42 = .ok (.getfield 38, 3) := by decide +kernel
theorem dX12_isWhole_45 : decode cX12_isWhole 45 = .ok (.irem, 1) := by decide +kernel
theorem dX12_isWhole_46 : decode cX12_isWhole 46 = .ok (.iadd, 1) := by decide +kernel
theorem dX12_isWhole_47 : decode cX12_isWhole 47 = .ok (.istore 4, 2) := by decide +kernel
theorem dX12_isWhole_49 : decode cX12_isWhole 49 = .ok (.aload_n 0, 1) := by decide +kernel
theorem dX12_isWhole_50 : decode cX12_isWhole 50 = .ok (.getfield 68, 3) := by decide +kernel
theorem dX12_isWhole_53 : decode cX12_isWhole 53 = .ok (.iload 4, 2) := by decide +kernel
theorem dX12_isWhole_55 : decode cX12_isWhole 55 = .ok (.iaload, 1) := by decide +kernel
theorem dX12_isWhole_56 : decode cX12_isWhole 56 = .ok (.iconst 2, 1) := by decide +kernel
theorem dX12_isWhole_57 : decode cX12_isWhole 57 = .ok (.if_icmp .ne 19, 3) := by decide +kernel
theorem dX12_isWhole_60 : decode cX12_isWhole 60 = .ok (.aload_n 0, 1) := by decide +kernel
theorem dX12_isWhole_61 : decode cX12_isWhole 61 = .ok (.getfield 74, 3) := by decide +kernel
theorem dX12_isWhole_64 : decode cX12_isWhole 64 = .ok (.iload 4, 2) := by decide +kernel
theorem dX12_isWhole_66 : decode cX12_isWhole 66 = .ok (.iaload, 1) := by decide +kernel
theorem dX12_isWhole_67 : decode cX12_isWhole 67 = .ok (.aload_n 0, 1) := by decide +kernel
theorem dX12_isWhole_68 : decode cX12_isWhole 68 = .ok (.getfield 140, 3) := by decide +kernel
theorem dX12_isWhole_71 : decode cX12_isWhole 71 = .ok (.iload_n 2, 1) := by decide +kernel
theorem dX12_isWhole_72 : decode cX12_isWhole 72 = .ok (.iaload, 1) := by decide +kernel
theorem dX12_isWhole_73 : decode cX12_isWhole 73 = .ok (.if_icmp .eq 5, 3) := by decide +kernel
theorem dX12_isWhole_76 : decode cX12_isWhole 76 = .ok (.iconst 0, 1) := by decide +kernel
theorem dX12_isWhole_77 : decode cX12_isWhole 77 = .ok (.ireturn, 1) := by decide +kernel
theorem dX12_isWhole_78 : decode cX12_isWhole 78 = .ok (.iinc 3 1, 3) := by decide +kernel
theorem dX12_isWhole_81 : decode cX12_isWhole 81 = .ok (.goto (-60), 3) := by decide +kernel
theorem dX12_isWhole_84 : decode cX12_isWhole 84 = .ok (.iconst 1, 1) := by decide +kernel
theorem dX12_isWhole_85 : decode cX12_isWhole 85 = .ok (.ireturn, 1) := by decide +kernel
def J_X12_isWhole_76 (b0 fu : Nat)   (σ : tM) : Option ((Int32) × tM) := some (0, σ)
def L_X12_isWhole_21 (b0 fu : Nat)  : Nat → Nat → Int32 → Int32 → tM → Option ((Int32) × tM)
  | 0, _, _, _, _ => none
  | n + 1, x0, x2, x3, σ => ltb (L_X12_isWhole_21 b0 fu  n) (fun rc21 => ckO b0 (σ) (x0) 11 (osm (tA (σ) (x0) 39) (fun a7 => ckR b0 (σ) (a7) 0 (fun n11 => ckI (x2) (n11) (if (tI (σ) (a7) ((x2).toNatClampNeg)) ≤ (x3) then some (1, σ) else osm (tA (σ) (x0) 38) (fun a14 => ckR b0 (σ) (a14) 0 (fun n18 => ckI (x2) (n18) (ckD (tI (σ) (x0) 6) (ltb (((34) + (((tI (σ) (a14) ((x2).toNatClampNeg)) + (x3)) - ((tI (σ) (a14) ((x2).toNatClampNeg)) + (x3)) / (tI (σ) (x0) 6) * (tI (σ) (x0) 6)) : Int32)) (fun y20 => osm (tA (σ) (x0) 8) (fun a21 => ckR b0 (σ) (a21) 0 (fun n25 => ckI (y20) (n25) (if (tI (σ) (a21) ((y20).toNatClampNeg)) = (2) then osm (tA (σ) (x0) 9) (fun a28 => ckR b0 (σ) (a28) 0 (fun n32 => ckI (y20) (n32) (osm (tA (σ) (x0) 37) (fun a34 => ckR b0 (σ) (a34) 0 (fun n38 => ckI (x2) (n38) (if (tI (σ) (a28) ((y20).toNatClampNeg)) = (tI (σ) (a34) ((x2).toNatClampNeg)) then ltb ((x3) + Int32.ofInt 1) (fun y41 => rc21 (x0) (x2) (y41) (σ)) else J_X12_isWhole_76 b0 fu    (σ))))))) else J_X12_isWhole_76 b0 fu    (σ))))))))))))))
def m_X12_isWhole (b0 fu : Nat) (a0 : Nat) (p0 : Int32) (σ : tM) : Option ((Int32) × tM) := grw σ (ckO b0 (σ) (a0) 11 (ltb ((((p0) - (tI (σ) (a0) 35)) - (1) : Int32)) (fun y3 => if (y3) < (tI (σ) (a0) 36) then L_X12_isWhole_21 b0 fu  (fu) (a0) (y3) (0) (σ) else some (0, σ))))
set_option maxRecDepth 100000 in
set_option maxHeartbeats 1000000 in
theorem j_X12_isWhole_76 {p : Program} {l : Launch} {e : Env} {s : State} {m : MethodId} {args : Array Value} {below : List Frame} {meth : Method} {c : Code} {D : va_G} {aC : Nat → ClassId} {b0 fu : Nat} {σ0 τ : tM} {v : Int32}  (C : tCx p l s m args meth c yX12_isWhole.cls cX12_isWhole 5 (some .boolean) D aC b0 σ0) (htab : ∀ x ∈ c.exceptionTable.toList, False) (hin : meth.name = yX12_isWhole.name)   {σ : tM} (hm : J_X12_isWhole_76 b0 fu   σ = some (v, τ)) : tX p l e s m args below meth c 5 0 0 D aC b0 σ0 (.inl (some (.int v))) τ 76 [] [] σ := by
  unfold J_X12_isWhole_76 at hm
  refine zx_iconst (v := 0) C dX12_isWhole_76 (by decide) ?_
  obtain ⟨rfl, rfl⟩ := ret_e hm
  exact zx_zret C rfl (by decide) rfl rfl dX12_isWhole_77
set_option maxRecDepth 100000 in
set_option maxHeartbeats 1000000 in
theorem l_X12_isWhole_21 {p : Program} {l : Launch} {e : Env} {s : State} {m : MethodId} {args : Array Value} {below : List Frame} {meth : Method} {c : Code} {D : va_G} {aC : Nat → ClassId} {b0 fu : Nat} {σ0 τ : tM} {v : Int32}  (C : tCx p l s m args meth c yX12_isWhole.cls cX12_isWhole 5 (some .boolean) D aC b0 σ0) (htab : ∀ x ∈ c.exceptionTable.toList, False) (hin : meth.name = yX12_isWhole.name)  : ∀ (n : Nat) (x0 : Nat) (x2 : Int32) (x3 : Int32) (σ : tM), L_X12_isWhole_21 b0 fu  n x0 x2 x3 σ = some (v, τ) → tX p l e s m args below meth c 5 0 0 D aC b0 σ0 (.inl (some (.int v))) τ 21 [(0, .ref (x0)), (2, .int (x2)), (3, .int (x3))] [] σ := by
  intro n
  induction n with
  | zero => intro x0 x2 x3 σ hm; unfold L_X12_isWhole_21 at hm; cases hm
  | succ n ih =>
    intro x0 x2 x3 σ hm
    unfold L_X12_isWhole_21 at hm
    obtain ⟨rc21, hrc⟩ : ∃ z, z = L_X12_isWhole_21 b0 fu  n := ⟨_, rfl⟩
    replace hm := ltb_e hm hrc
    rw [← hrc] at ih
    have hrc21 := ih
    clear ih hrc
    refine zx_iload_n C dX12_isWhole_21 2 rfl ?_
    refine zx_aload_n C dX12_isWhole_22 0 rfl ?_
    obtain ⟨k5, i6, hm⟩ := ckO_e hm
    obtain ⟨a7, h8, hm⟩ := osm_e hm
    refine zx_get (j := 39) C tC_11 k5 i6 ⟨by decide, Or.inl W_7_18⟩ dX12_isWhole_23 (.ref a7) (rf_s h8) ?_
    refine zx_iload_n C dX12_isWhole_26 1 rfl ?_
    obtain ⟨n11, k9, i10, hm⟩ := ckR_e hm
    obtain ⟨h12, hm⟩ := ckI_e hm
    refine zx_iald C k9 i10 h12 dX12_isWhole_27 ?_
    refine zx_icmp_ge C 84 dX12_isWhole_28 (by decide) (fun c13 => ?_) (fun c13 => ?_)
    · replace hm := ip_e hm c13
      refine zx_iconst (v := 1) C dX12_isWhole_84 (by decide) ?_
      obtain ⟨rfl, rfl⟩ := ret_e hm
      exact zx_zret C rfl (by decide) rfl rfl dX12_isWhole_85
    · replace hm := in_e hm c13
      refine zx_bipush (v := 34) C dX12_isWhole_31 (by decide) ?_
      refine zx_aload_n C dX12_isWhole_33 0 rfl ?_
      obtain ⟨a14, h15, hm⟩ := osm_e hm
      refine zx_get (j := 38) C tC_11 k5 i6 ⟨by decide, Or.inl W_7_17⟩ dX12_isWhole_34 (.ref a14) (rf_s h15) ?_
      refine zx_iload_n C dX12_isWhole_37 1 rfl ?_
      obtain ⟨n18, k16, i17, hm⟩ := ckR_e hm
      obtain ⟨h19, hm⟩ := ckI_e hm
      refine zx_iald C k16 i17 h19 dX12_isWhole_38 ?_
      refine zx_iload_n C dX12_isWhole_39 2 rfl ?_
      refine zx_iadd C dX12_isWhole_40 ?_
      refine zx_aload_n C dX12_isWhole_41 0 rfl ?_
      refine zx_get (j := 6) C tC_11 k5 i6 ⟨by decide, Or.inl W_6_225⟩ dX12_isWhole_42 (.int (tI (σ) (x0) 6)) rfl ?_
      obtain ⟨h42, hm⟩ := ckD_e hm
      refine zx_irem C dX12_isWhole_45 h42 ?_
      refine zx_iadd C dX12_isWhole_46 ?_
      refine zx_topi (fun y20 hy20 => ?_)
      replace hm := ltb_e hm hy20
      refine zx_istore C [(4, .int (y20)), (0, .ref (x0)), (2, .int (x2)), (3, .int (x3))] dX12_isWhole_47 (by decide) rfl ?_
      refine zx_aload_n C dX12_isWhole_49 1 rfl ?_
      obtain ⟨a21, h22, hm⟩ := osm_e hm
      refine zx_get (j := 8) C tC_11 k5 i6 ⟨by decide, Or.inl W_6_227⟩ dX12_isWhole_50 (.ref a21) (rf_s h22) ?_
      refine zx_iload C dX12_isWhole_53 0 rfl ?_
      obtain ⟨n25, k23, i24, hm⟩ := ckR_e hm
      obtain ⟨h26, hm⟩ := ckI_e hm
      refine zx_iald C k23 i24 h26 dX12_isWhole_55 ?_
      refine zx_iconst (v := 2) C dX12_isWhole_56 (by decide) ?_
      refine zx_icmp_ne C 76 dX12_isWhole_57 (by decide) (fun c27 => ?_) (fun c27 => ?_)
      · replace hm := in_e hm c27
        exact zx_lv [] [] rfl (j_X12_isWhole_76 C htab hin    hm)
      · replace hm := ip_e hm c27
        refine zx_aload_n C dX12_isWhole_60 1 rfl ?_
        obtain ⟨a28, h29, hm⟩ := osm_e hm
        refine zx_get (j := 9) C tC_11 k5 i6 ⟨by decide, Or.inl W_6_228⟩ dX12_isWhole_61 (.ref a28) (rf_s h29) ?_
        refine zx_iload C dX12_isWhole_64 0 rfl ?_
        obtain ⟨n32, k30, i31, hm⟩ := ckR_e hm
        obtain ⟨h33, hm⟩ := ckI_e hm
        refine zx_iald C k30 i31 h33 dX12_isWhole_66 ?_
        refine zx_aload_n C dX12_isWhole_67 1 rfl ?_
        obtain ⟨a34, h35, hm⟩ := osm_e hm
        refine zx_get (j := 37) C tC_11 k5 i6 ⟨by decide, Or.inl W_7_16⟩ dX12_isWhole_68 (.ref a34) (rf_s h35) ?_
        refine zx_iload_n C dX12_isWhole_71 2 rfl ?_
        obtain ⟨n38, k36, i37, hm⟩ := ckR_e hm
        obtain ⟨h39, hm⟩ := ckI_e hm
        refine zx_iald C k36 i37 h39 dX12_isWhole_72 ?_
        refine zx_icmp_eq C 78 dX12_isWhole_73 (by decide) (fun c40 => ?_) (fun c40 => ?_)
        · replace hm := ip_e hm c40
          obtain ⟨y41, hy41⟩ : ∃ z : Int32, z = (x3) + Int32.ofInt 1 := ⟨_, rfl⟩
          replace hm := ltb_e hm hy41
          refine zx_iinc C [(3, .int (y41)), (4, .int (y20)), (0, .ref (x0)), (2, .int (x2))] dX12_isWhole_78 3 rfl hy41.symm (by decide) rfl ?_
          refine zx_goto C 21 dX12_isWhole_81 (by decide) ?_
          exact zx_lv [2, 3, 0] [(0, .ref (x0)), (2, .int (x2)), (3, .int (y41))] rfl (hrc21 _ _ _ _ hm)
        · replace hm := in_e hm c40
          exact zx_lv [] [] rfl (j_X12_isWhole_76 C htab hin    hm)
set_option maxRecDepth 100000 in
set_option maxHeartbeats 1000000 in
theorem c_X12_isWhole {l : Launch} {D : va_G} {aC : Nat → ClassId} {b0 fu : Nat} {a0 : Nat} {p0 : Int32} {σ τ : tM} {v : Int32} (hm : m_X12_isWhole b0 fu a0 p0 σ = some (v, τ)) : tMt l D aC b0 yX12_isWhole (Cond.code yX12_isWhole cX12_isWhole 5 (some .boolean)) 0 0 [.ref (a0), .int (p0)] σ (.inl (some (.int v))) τ := by
  unfold m_X12_isWhole at hm
  obtain ⟨hg, hm⟩ := grw_e hm
  refine tMt_of (n := 0) rfl (Nat.le_of_ble_eq_true rfl) hg ?_
  intro p e s m below meth c C htab hin
  refine zx_lv [0, 1] [(0, .ref (a0)), (1, .int (p0))] rfl ?_
  refine zx_iload_n C dX12_isWhole_0 1 rfl ?_
  refine zx_aload_n C dX12_isWhole_1 0 rfl ?_
  obtain ⟨k1, i2, hm⟩ := ckO_e hm
  refine zx_get (j := 35) C tC_11 k1 i2 ⟨by decide, Or.inl W_7_14⟩ dX12_isWhole_2 (.int (tI (σ) (a0) 35)) rfl ?_
  refine zx_isub C dX12_isWhole_5 ?_
  refine zx_iconst (v := 1) C dX12_isWhole_6 (by decide) ?_
  refine zx_isub C dX12_isWhole_7 ?_
  refine zx_topi (fun y3 hy3 => ?_)
  replace hm := ltb_e hm hy3
  refine zx_istore_n C [(2, .int (y3)), (0, .ref (a0)), (1, .int (p0))] dX12_isWhole_8 rfl (by decide) rfl ?_
  refine zx_iload_n C dX12_isWhole_9 0 rfl ?_
  refine zx_aload_n C dX12_isWhole_10 1 rfl ?_
  refine zx_get (j := 36) C tC_11 k1 i2 ⟨by decide, Or.inl W_7_15⟩ dX12_isWhole_11 (.int (tI (σ) (a0) 36)) rfl ?_
  refine zx_icmp_lt C 19 dX12_isWhole_14 (by decide) (fun c4 => ?_) (fun c4 => ?_)
  · replace hm := ip_e hm c4
    refine zx_iconst (v := 0) C dX12_isWhole_19 (by decide) ?_
    refine zx_istore_n C [(3, .int (0)), (2, .int (y3)), (0, .ref (a0)), (1, .int (p0))] dX12_isWhole_20 rfl (by decide) rfl ?_
    exact zx_lv [2, 1, 0] [(0, .ref (a0)), (2, .int (y3)), (3, .int (0))] rfl (l_X12_isWhole_21 C htab hin  _ _ _ _ _ hm)
  · replace hm := in_e hm c4
    refine zx_iconst (v := 0) C dX12_isWhole_17 (by decide) ?_
    obtain ⟨rfl, rfl⟩ := ret_e hm
    exact zx_zret C rfl (by decide) rfl rfl dX12_isWhole_18
abbrev cX12_keepChosen : ByteArray := prog_13_method_62_code
def yX12_keepChosen : MethodName := ⟨"SyncTreeModel", "keepChosen", "()V"⟩
theorem Y_X12_keepChosen : tY yX12_keepChosen cX12_keepChosen 4 none 0 := ⟨W_9_101, W_1_14, ⟨by decide +kernel, by decide +kernel⟩, by decide +kernel⟩
theorem dX12_keepChosen_0 : decode cX12_keepChosen 0 = .ok (.aload_n 0, 1) := by decide +kernel
theorem dX12_keepChosen_1 : decode cX12_keepChosen 1 = .ok (.getfield 87, 3) := by decide +kernel
theorem dX12_keepChosen_4 : decode cX12_keepChosen 4 = .ok (.istore_n 1, 1) := by decide +kernel
theorem dX12_keepChosen_5 : decode cX12_keepChosen 5 = .ok (.iconst 0, 1) := by decide +kernel
theorem dX12_keepChosen_6 : decode cX12_keepChosen 6 = .ok (.istore_n 2, 1) := by decide +kernel
theorem dX12_keepChosen_7 : decode cX12_keepChosen 7 = .ok (.iload_n 2, 1) := by decide +kernel
theorem dX12_keepChosen_8 : decode cX12_keepChosen 8 = .ok (.aload_n 0, 1) := by decide +kernel
theorem dX12_keepChosen_9 : decode cX12_keepChosen 9 = .ok (.getfield 361, 3) := by decide +kernel
theorem dX12_keepChosen_12 : decode cX12_keepChosen 12 = .ok (.arraylength, 1) := by decide +kernel
theorem dX12_keepChosen_13 : decode cX12_keepChosen 13 = .ok (.if_icmp .ge 16, 3) := by decide +kernel
theorem dX12_keepChosen_16 : decode cX12_keepChosen 16 = .ok (.aload_n 0, 1) := by decide +kernel
theorem dX12_keepChosen_17 : decode cX12_keepChosen 17 = .ok (.getfield 361, 3) := by decide +kernel
theorem dX12_keepChosen_20 : decode cX12_keepChosen 20 = .ok (.iload_n 2, 1) := by decide +kernel
theorem dX12_keepChosen_21 : decode cX12_keepChosen 21 = .ok (.iconst 0, 1) := by decide +kernel
theorem dX12_keepChosen_22 : decode cX12_keepChosen 22 = .ok (.iastore, 1) := by decide +kernel
theorem dX12_keepChosen_23 : decode cX12_keepChosen 23 = .ok (.iinc 2 1, 3) := by decide +kernel
theorem dX12_keepChosen_26 : decode cX12_keepChosen 26 = .ok (.goto (-19), 3) := by decide +kernel
theorem dX12_keepChosen_29 : decode cX12_keepChosen 29 = .ok (.iconst 0, 1) := by decide +kernel
theorem dX12_keepChosen_30 : decode cX12_keepChosen 30 = .ok (.istore_n 2, 1) := by decide +kernel
theorem dX12_keepChosen_31 : decode cX12_keepChosen 31 = .ok (.iload_n 2, 1) := by decide +kernel
theorem dX12_keepChosen_32 : decode cX12_keepChosen 32 = .ok (.aload_n 0, 1) := by decide +kernel
theorem dX12_keepChosen_33 : decode cX12_keepChosen 33 = .ok (.getfield 93, 3) := by decide +kernel
theorem dX12_keepChosen_36 : decode cX12_keepChosen 36 = .ok (.if_icmp .ge 54, 3) := by decide +kernel
theorem dX12_keepChosen_39 : decode cX12_keepChosen 39 = .ok (.aload_n 0, 1) := by decide +kernel
theorem dX12_keepChosen_40 : decode cX12_keepChosen 40 = .ok (.getfield 65, 3) := by decide +kernel
theorem dX12_keepChosen_43 : decode cX12_keepChosen 43 = .ok (.iload_n 1, 1) := by decide +kernel
theorem dX12_keepChosen_44 : decode cX12_keepChosen 44 = .ok (.iaload, 1) := by decide +kernel
theorem dX12_keepChosen_45 : decode cX12_keepChosen 45 = .ok (.istore_n 3, 1) := by decide +kernel
theorem dX12_keepChosen_46 : decode cX12_keepChosen 46 = .ok (.aload_n 0, 1) := by decide +kernel
theorem dX12_keepChosen_47 : decode cX12_keepChosen 47 = .ok (.getfield 361, 3) := by decide +kernel
theorem dX12_keepChosen_50 : decode cX12_keepChosen 50 = .ok (.iload_n 3, 1) := by decide +kernel
theorem dX12_keepChosen_51 : decode cX12_keepChosen 51 = .ok (.dup2, 1) := by decide +kernel
theorem dX12_keepChosen_52 : decode cX12_keepChosen 52 = .ok (.iaload, 1) := by decide +kernel
theorem dX12_keepChosen_53 : decode cX12_keepChosen 53 = .ok (.iconst 1, 1) := by decide +kernel
theorem dX12_keepChosen_54 : decode cX12_keepChosen 54 = .ok (.iadd, 1) := by decide +kernel
theorem dX12_keepChosen_55 : decode cX12_keepChosen 55 = .ok (.iastore, 1) := by decide +kernel
theorem dX12_keepChosen_56 : decode cX12_keepChosen 56 = .ok (.aload_n 0, 1) := by decide +kernel
theorem dX12_keepChosen_57 : decode cX12_keepChosen 57 = .ok (.getfield 361, 3) := by decide +kernel
theorem dX12_keepChosen_60 : decode cX12_keepChosen 60 = .ok (.iload_n 3, 1) := by decide +kernel
theorem dX12_keepChosen_61 : decode cX12_keepChosen 61 = .ok (.iaload, 1) := by decide +kernel
theorem dX12_keepChosen_62 : decode cX12_keepChosen 62 = .ok (.aload_n 0, 1) := by decide +kernel
theorem dX12_keepChosen_63 : decode cX12_keepChosen 63 = .ok (.getfield 62, 3) := by decide +kernel
theorem dX12_keepChosen_66 : decode cX12_keepChosen 66 = .ok (.iload_n 3, 1) := by decide +kernel
theorem dX12_keepChosen_67 : decode cX12_keepChosen 67 = .ok (.iaload, 1) := by decide +kernel
theorem dX12_keepChosen_68 : decode cX12_keepChosen 68 = .ok (.if_icmp .ne 8, 3) := by decide +kernel
theorem dX12_keepChosen_71 : decode cX12_keepChosen 71 = .ok (.aload_n 0, 1) := by decide +kernel
theorem dX12_keepChosen_72 : decode cX12_keepChosen 72 = .ok (.iload_n 1, 1) := by decide +kernel
theorem dX12_keepChosen_73 : decode cX12_keepChosen 73 = .ok (.invokevirtual 90, 3) := by decide +kernel
theorem dX12_keepChosen_76 : decode cX12_keepChosen 76 = .ok (.iload_n 1, 1) := by decide +kernel
theorem dX12_keepChosen_77 : decode cX12_keepChosen 77 = .ok (.iconst 1, 1) := by decide +kernel
theorem dX12_keepChosen_78 : decode cX12_keepChosen 78 = .ok (.iadd, 1) := by decide +kernel
theorem dX12_keepChosen_79 : decode cX12_keepChosen 79 = .ok (.sipush 256, 3) := by decide +kernel
theorem dX12_keepChosen_82 : decode cX12_keepChosen 82 = .ok (.irem, 1) := by decide +kernel
theorem dX12_keepChosen_83 : decode cX12_keepChosen 83 = .ok (.istore_n 1, 1) := by decide +kernel
theorem dX12_keepChosen_84 : decode cX12_keepChosen 84 = .ok (.iinc 2 1, 3) := by decide +kernel
theorem dX12_keepChosen_87 : decode cX12_keepChosen 87 = .ok (.goto (-56), 3) := by decide +kernel
theorem dX12_keepChosen_90 : decode cX12_keepChosen 90 = .ok (.aload_n 0, 1) := by decide +kernel
theorem dX12_keepChosen_91 : decode cX12_keepChosen 91 = .ok (.iconst 0, 1) := by decide +kernel
theorem dX12_keepChosen_92 : decode cX12_keepChosen 92 = .ok (.putfield 93, 3) := by decide +kernel
theorem dX12_keepChosen_95 : decode cX12_keepChosen 95 = .ok (.iconst 0, 1) := by decide +kernel
theorem dX12_keepChosen_96 : decode cX12_keepChosen 96 = .ok (.istore_n 2, 1) := by decide +kernel
theorem dX12_keepChosen_97 : decode cX12_keepChosen 97 = .ok (.iload_n 2, 1) := by decide +kernel
theorem dX12_keepChosen_98 : decode cX12_keepChosen 98 = .ok (.aload_n 0, 1) := by decide +kernel
theorem dX12_keepChosen_99 : decode cX12_keepChosen 99 = .ok (.getfield 62, 3) := by decide +kernel
theorem dX12_keepChosen_102 : decode cX12_keepChosen 102 = .ok (.arraylength, 1) := by decide +kernel
theorem dX12_keepChosen_103 : decode cX12_keepChosen 103 = .ok (.if_icmp .ge 16, 3) := by decide +kernel
theorem dX12_keepChosen_106 : decode cX12_keepChosen 106 = .ok (.aload_n 0, 1) := by decide +kernel
theorem dX12_keepChosen_107 : decode cX12_keepChosen 107 = .ok (.getfield 62, 3) := by decide +kernel
theorem dX12_keepChosen_110 : decode cX12_keepChosen 110 = .ok (.iload_n 2, 1) := by decide +kernel
theorem dX12_keepChosen_111 : decode cX12_keepChosen 111 = .ok (.iconst 0, 1) := by decide +kernel
theorem dX12_keepChosen_112 : decode cX12_keepChosen 112 = .ok (.iastore, 1) := by decide +kernel
theorem dX12_keepChosen_113 : decode cX12_keepChosen 113 = .ok (.iinc 2 1, 3) := by decide +kernel
theorem dX12_keepChosen_116 : decode cX12_keepChosen 116 = .ok (.goto (-19), 3) := by decide +kernel
theorem dX12_keepChosen_119 : decode cX12_keepChosen 119 = .ok (.return_, 1) := by decide +kernel
def L_X12_keepChosen_97 (b0 fu : Nat)  : Nat → Nat → Int32 → tM → Option ((Unit) × tM)
  | 0, _, _, _ => none
  | n + 1, x0, x2, σ => ltb (L_X12_keepChosen_97 b0 fu  n) (fun rc97 => ckO b0 (σ) (x0) 11 (osm (tA (σ) (x0) 17) (fun a17 => ckR b0 (σ) (a17) 0 (fun n21 => if (nI n21) ≤ (x2) then some ((), σ) else osm (tA (σ) (x0) 17) (fun a23 => ckR b0 (σ) (a23) 0 (fun n27 => ckI (x2) (n27) (ltb ((x2) + Int32.ofInt 1) (fun y29 => rc97 (x0) (y29) (sI (σ) (a23) ((x2).toNatClampNeg) (0))))))))))
def J_X12_keepChosen_76 (b0 fu : Nat) (rc31 : Nat → Int32 → Int32 → tM → Option ((Unit) × tM)) (x0 : Nat) (x1 : Int32) (x2 : Int32) (σ : tM) : Option ((Unit) × tM) := ltb ((((x1) + (1)) - ((x1) + (1)) / (256) * (256) : Int32)) (fun y57 => ltb ((x2) + Int32.ofInt 1) (fun y58 => rc31 (x0) (y57) (y58) (σ)))
def L_X12_keepChosen_31 (b0 fu : Nat)  : Nat → Nat → Int32 → Int32 → tM → Option ((Unit) × tM)
  | 0, _, _, _, _ => none
  | n + 1, x0, x1, x2, σ => ltb (L_X12_keepChosen_31 b0 fu  n) (fun rc31 => ckO b0 (σ) (x0) 11 (if (tI (σ) (x0) 16) ≤ (x2) then L_X12_keepChosen_97 b0 fu  (fu) (x0) (0) (sI (σ) (x0) 16 (0)) else osm (tA (σ) (x0) 11) (fun a30 => ckR b0 (σ) (a30) 0 (fun n34 => ckI (x1) (n34) (ltb ((tI (σ) (a30) ((x1).toNatClampNeg) : Int32)) (fun y36 => osm (tA (σ) (x0) 54) (fun a37 => ckR b0 (σ) (a37) 0 (fun n41 => ckI (y36) (n41) (ckI (y36) (n41) (osm (tA (sI (σ) (a37) ((y36).toNatClampNeg) ((tI (σ) (a37) ((y36).toNatClampNeg)) + (1))) (x0) 54) (fun a44 => ckR b0 (sI (σ) (a37) ((y36).toNatClampNeg) ((tI (σ) (a37) ((y36).toNatClampNeg)) + (1))) (a44) 0 (fun n48 => ckI (y36) (n48) (osm (tA (sI (σ) (a37) ((y36).toNatClampNeg) ((tI (σ) (a37) ((y36).toNatClampNeg)) + (1))) (x0) 17) (fun a50 => ckR b0 (sI (σ) (a37) ((y36).toNatClampNeg) ((tI (σ) (a37) ((y36).toNatClampNeg)) + (1))) (a50) 0 (fun n54 => ckI (y36) (n54) (if (tI (sI (σ) (a37) ((y36).toNatClampNeg) ((tI (σ) (a37) ((y36).toNatClampNeg)) + (1))) (a44) ((y36).toNatClampNeg)) = (tI (sI (σ) (a37) ((y36).toNatClampNeg) ((tI (σ) (a37) ((y36).toNatClampNeg)) + (1))) (a50) ((y36).toNatClampNeg)) then cll (m_X12_keep b0 fu (x0) (x1) (sI (σ) (a37) ((y36).toNatClampNeg) ((tI (σ) (a37) ((y36).toNatClampNeg)) + (1)))) (fun v60 ρ61 => J_X12_keepChosen_76 b0 fu rc31  (x0) (x1) (x2) (ρ61)) else J_X12_keepChosen_76 b0 fu rc31  (x0) (x1) (x2) (sI (σ) (a37) ((y36).toNatClampNeg) ((tI (σ) (a37) ((y36).toNatClampNeg)) + (1)))))))))))))))))))
def L_X12_keepChosen_7 (b0 fu : Nat)  : Nat → Nat → Int32 → Int32 → tM → Option ((Unit) × tM)
  | 0, _, _, _, _ => none
  | n + 1, x0, x1, x2, σ => ltb (L_X12_keepChosen_7 b0 fu  n) (fun rc7 => ckO b0 (σ) (x0) 11 (osm (tA (σ) (x0) 54) (fun a6 => ckR b0 (σ) (a6) 0 (fun n10 => if (nI n10) ≤ (x2) then L_X12_keepChosen_31 b0 fu  (fu) (x0) (x1) (0) (σ) else osm (tA (σ) (x0) 54) (fun a63 => ckR b0 (σ) (a63) 0 (fun n67 => ckI (x2) (n67) (ltb ((x2) + Int32.ofInt 1) (fun y69 => rc7 (x0) (x1) (y69) (sI (σ) (a63) ((x2).toNatClampNeg) (0))))))))))
def m_X12_keepChosen (b0 fu : Nat) (a0 : Nat) (σ : tM) : Option ((Unit) × tM) := grw σ (ckO b0 (σ) (a0) 11 (ltb ((tI (σ) (a0) 15 : Int32)) (fun y3 => L_X12_keepChosen_7 b0 fu  (fu) (a0) (y3) (0) (σ))))
set_option maxRecDepth 100000 in
set_option maxHeartbeats 1000000 in
theorem l_X12_keepChosen_97 {p : Program} {l : Launch} {e : Env} {s : State} {m : MethodId} {args : Array Value} {below : List Frame} {meth : Method} {c : Code} {D : va_G} {aC : Nat → ClassId} {b0 fu : Nat} {σ0 τ : tM} {v : Unit}  (C : tCx p l s m args meth c yX12_keepChosen.cls cX12_keepChosen 4 none D aC b0 σ0) (htab : ∀ x ∈ c.exceptionTable.toList, False) (hin : meth.name = yX12_keepChosen.name)  : ∀ (n : Nat) (x0 : Nat) (x2 : Int32) (σ : tM), L_X12_keepChosen_97 b0 fu  n x0 x2 σ = some (v, τ) → tX p l e s m args below meth c 4 2 48 D aC b0 σ0 (.inl none) τ 97 [(0, .ref (x0)), (2, .int (x2))] [] σ := by
  intro n
  induction n with
  | zero => intro x0 x2 σ hm; unfold L_X12_keepChosen_97 at hm; cases hm
  | succ n ih =>
    intro x0 x2 σ hm
    unfold L_X12_keepChosen_97 at hm
    obtain ⟨rc97, hrc⟩ : ∃ z, z = L_X12_keepChosen_97 b0 fu  n := ⟨_, rfl⟩
    replace hm := ltb_e hm hrc
    rw [← hrc] at ih
    have hrc97 := ih
    clear ih hrc
    refine zx_iload_n C dX12_keepChosen_97 1 rfl ?_
    refine zx_aload_n C dX12_keepChosen_98 0 rfl ?_
    obtain ⟨k15, i16, hm⟩ := ckO_e hm
    obtain ⟨a17, h18, hm⟩ := osm_e hm
    refine zx_get (j := 17) C tC_11 k15 i16 ⟨by decide, Or.inl W_6_236⟩ dX12_keepChosen_99 (.ref a17) (rf_s h18) ?_
    obtain ⟨n21, k19, i20, hm⟩ := ckR_e hm
    refine zx_alen C k19 (by decide) i20 dX12_keepChosen_102 ?_
    refine zx_icmp_ge C 119 dX12_keepChosen_103 (by decide) (fun c22 => ?_) (fun c22 => ?_)
    · replace hm := ip_e hm c22
      obtain ⟨rfl, rfl⟩ := ret_e hm
      exact zx_vret C rfl rfl rfl dX12_keepChosen_119
    · replace hm := in_e hm c22
      refine zx_aload_n C dX12_keepChosen_106 0 rfl ?_
      obtain ⟨a23, h24, hm⟩ := osm_e hm
      refine zx_get (j := 17) C tC_11 k15 i16 ⟨by decide, Or.inl W_6_236⟩ dX12_keepChosen_107 (.ref a23) (rf_s h24) ?_
      refine zx_iload_n C dX12_keepChosen_110 1 rfl ?_
      refine zx_iconst (v := 0) C dX12_keepChosen_111 (by decide) ?_
      obtain ⟨n27, k25, i26, hm⟩ := ckR_e hm
      obtain ⟨h28, hm⟩ := ckI_e hm
      refine zx_iast C k25 i26 h28 dX12_keepChosen_112 ?_
      obtain ⟨y29, hy29⟩ : ∃ z : Int32, z = (x2) + Int32.ofInt 1 := ⟨_, rfl⟩
      replace hm := ltb_e hm hy29
      refine zx_iinc C [(2, .int (y29)), (0, .ref (x0))] dX12_keepChosen_113 1 rfl hy29.symm (by decide) rfl ?_
      refine zx_goto C 97 dX12_keepChosen_116 (by decide) ?_
      exact zx_lv [1, 0] [(0, .ref (x0)), (2, .int (y29))] rfl (hrc97 _ _ _ hm)
set_option maxRecDepth 100000 in
set_option maxHeartbeats 1000000 in
theorem j_X12_keepChosen_76 {p : Program} {l : Launch} {e : Env} {s : State} {m : MethodId} {args : Array Value} {below : List Frame} {meth : Method} {c : Code} {D : va_G} {aC : Nat → ClassId} {b0 fu : Nat} {σ0 τ : tM} {v : Unit} {rc31 : Nat → Int32 → Int32 → tM → Option ((Unit) × tM)} (C : tCx p l s m args meth c yX12_keepChosen.cls cX12_keepChosen 4 none D aC b0 σ0) (htab : ∀ x ∈ c.exceptionTable.toList, False) (hin : meth.name = yX12_keepChosen.name) (hrc31 : ∀ (x0 : Nat) (x1 : Int32) (x2 : Int32) (ρ : tM), rc31 x0 x1 x2 ρ = some (v, τ) → tX p l e s m args below meth c 4 2 48 D aC b0 σ0 (.inl none) τ 31 [(0, .ref (x0)), (1, .int (x1)), (2, .int (x2))] [] ρ) {x0 : Nat} {x1 : Int32} {x2 : Int32} {σ : tM} (hm : J_X12_keepChosen_76 b0 fu rc31 x0 x1 x2 σ = some (v, τ)) : tX p l e s m args below meth c 4 2 48 D aC b0 σ0 (.inl none) τ 76 [(0, .ref (x0)), (1, .int (x1)), (2, .int (x2))] [] σ := by
  unfold J_X12_keepChosen_76 at hm
  refine zx_iload_n C dX12_keepChosen_76 1 rfl ?_
  refine zx_iconst (v := 1) C dX12_keepChosen_77 (by decide) ?_
  refine zx_iadd C dX12_keepChosen_78 ?_
  refine zx_sipush (v := 256) C dX12_keepChosen_79 (by decide) ?_
  refine zx_irem C dX12_keepChosen_82 (by decide) ?_
  refine zx_topi (fun y57 hy57 => ?_)
  replace hm := ltb_e hm hy57
  refine zx_istore_n C [(1, .int (y57)), (0, .ref (x0)), (2, .int (x2))] dX12_keepChosen_83 rfl (by decide) rfl ?_
  obtain ⟨y58, hy58⟩ : ∃ z : Int32, z = (x2) + Int32.ofInt 1 := ⟨_, rfl⟩
  replace hm := ltb_e hm hy58
  refine zx_iinc C [(2, .int (y58)), (1, .int (y57)), (0, .ref (x0))] dX12_keepChosen_84 2 rfl hy58.symm (by decide) rfl ?_
  refine zx_goto C 31 dX12_keepChosen_87 (by decide) ?_
  exact zx_lv [2, 1, 0] [(0, .ref (x0)), (1, .int (y57)), (2, .int (y58))] rfl (hrc31 _ _ _ _ hm)
set_option maxRecDepth 100000 in
set_option maxHeartbeats 1000000 in
theorem l_X12_keepChosen_31 {p : Program} {l : Launch} {e : Env} {s : State} {m : MethodId} {args : Array Value} {below : List Frame} {meth : Method} {c : Code} {D : va_G} {aC : Nat → ClassId} {b0 fu : Nat} {σ0 τ : tM} {v : Unit}  (C : tCx p l s m args meth c yX12_keepChosen.cls cX12_keepChosen 4 none D aC b0 σ0) (htab : ∀ x ∈ c.exceptionTable.toList, False) (hin : meth.name = yX12_keepChosen.name)  : ∀ (n : Nat) (x0 : Nat) (x1 : Int32) (x2 : Int32) (σ : tM), L_X12_keepChosen_31 b0 fu  n x0 x1 x2 σ = some (v, τ) → tX p l e s m args below meth c 4 2 48 D aC b0 σ0 (.inl none) τ 31 [(0, .ref (x0)), (1, .int (x1)), (2, .int (x2))] [] σ := by
  intro n
  induction n with
  | zero => intro x0 x1 x2 σ hm; unfold L_X12_keepChosen_31 at hm; cases hm
  | succ n ih =>
    intro x0 x1 x2 σ hm
    unfold L_X12_keepChosen_31 at hm
    obtain ⟨rc31, hrc⟩ : ∃ z, z = L_X12_keepChosen_31 b0 fu  n := ⟨_, rfl⟩
    replace hm := ltb_e hm hrc
    rw [← hrc] at ih
    have hrc31 := ih
    clear ih hrc
    refine zx_iload_n C dX12_keepChosen_31 2 rfl ?_
    refine zx_aload_n C dX12_keepChosen_32 0 rfl ?_
    obtain ⟨k12, i13, hm⟩ := ckO_e hm
    refine zx_get (j := 16) C tC_11 k12 i13 ⟨by decide, Or.inl W_6_235⟩ dX12_keepChosen_33 (.int (tI (σ) (x0) 16)) rfl ?_
    refine zx_icmp_ge C 90 dX12_keepChosen_36 (by decide) (fun c14 => ?_) (fun c14 => ?_)
    · replace hm := ip_e hm c14
      refine zx_aload_n C dX12_keepChosen_90 0 rfl ?_
      refine zx_iconst (v := 0) C dX12_keepChosen_91 (by decide) ?_
      refine zx_put (j := 16) (ρ := sI (σ) (x0) 16 (0)) C tC_11 k12 i13 ⟨by decide, Or.inl W_6_235⟩ rfl rfl rfl (sI_ok (fun _ => rfl)) dX12_keepChosen_92 ?_
      refine zx_iconst (v := 0) C dX12_keepChosen_95 (by decide) ?_
      refine zx_istore_n C [(2, .int (0)), (0, .ref (x0)), (1, .int (x1))] dX12_keepChosen_96 rfl (by decide) rfl ?_
      exact zx_lv [1, 0] [(0, .ref (x0)), (2, .int (0))] rfl (l_X12_keepChosen_97 C htab hin  _ _ _ _ hm)
    · replace hm := in_e hm c14
      refine zx_aload_n C dX12_keepChosen_39 0 rfl ?_
      obtain ⟨a30, h31, hm⟩ := osm_e hm
      refine zx_get (j := 11) C tC_11 k12 i13 ⟨by decide, Or.inl W_6_230⟩ dX12_keepChosen_40 (.ref a30) (rf_s h31) ?_
      refine zx_iload_n C dX12_keepChosen_43 1 rfl ?_
      obtain ⟨n34, k32, i33, hm⟩ := ckR_e hm
      obtain ⟨h35, hm⟩ := ckI_e hm
      refine zx_iald C k32 i33 h35 dX12_keepChosen_44 ?_
      refine zx_topi (fun y36 hy36 => ?_)
      replace hm := ltb_e hm hy36
      refine zx_istore_n C [(3, .int (y36)), (0, .ref (x0)), (1, .int (x1)), (2, .int (x2))] dX12_keepChosen_45 rfl (by decide) rfl ?_
      refine zx_aload_n C dX12_keepChosen_46 1 rfl ?_
      obtain ⟨a37, h38, hm⟩ := osm_e hm
      refine zx_get (j := 54) C tC_11 k12 i13 ⟨by decide, Or.inl W_7_33⟩ dX12_keepChosen_47 (.ref a37) (rf_s h38) ?_
      refine zx_iload_n C dX12_keepChosen_50 0 rfl ?_
      refine zx_dup2_11 C dX12_keepChosen_51 rfl rfl ?_
      obtain ⟨n41, k39, i40, hm⟩ := ckR_e hm
      obtain ⟨h42, hm⟩ := ckI_e hm
      refine zx_iald C k39 i40 h42 dX12_keepChosen_52 ?_
      refine zx_iconst (v := 1) C dX12_keepChosen_53 (by decide) ?_
      refine zx_iadd C dX12_keepChosen_54 ?_
      obtain ⟨h43, hm⟩ := ckI_e hm
      refine zx_iast C k39 i40 h43 dX12_keepChosen_55 ?_
      refine zx_aload_n C dX12_keepChosen_56 1 rfl ?_
      obtain ⟨a44, h45, hm⟩ := osm_e hm
      refine zx_get (j := 54) C tC_11 k12 i13 ⟨by decide, Or.inl W_7_33⟩ dX12_keepChosen_57 (.ref a44) (rf_s h45) ?_
      refine zx_iload_n C dX12_keepChosen_60 0 rfl ?_
      obtain ⟨n48, k46, i47, hm⟩ := ckR_e hm
      obtain ⟨h49, hm⟩ := ckI_e hm
      refine zx_iald C k46 i47 h49 dX12_keepChosen_61 ?_
      refine zx_aload_n C dX12_keepChosen_62 1 rfl ?_
      obtain ⟨a50, h51, hm⟩ := osm_e hm
      refine zx_get (j := 17) C tC_11 k12 i13 ⟨by decide, Or.inl W_6_236⟩ dX12_keepChosen_63 (.ref a50) (rf_s h51) ?_
      refine zx_iload_n C dX12_keepChosen_66 0 rfl ?_
      obtain ⟨n54, k52, i53, hm⟩ := ckR_e hm
      obtain ⟨h55, hm⟩ := ckI_e hm
      refine zx_iald C k52 i53 h55 dX12_keepChosen_67 ?_
      refine zx_icmp_ne C 76 dX12_keepChosen_68 (by decide) (fun c56 => ?_) (fun c56 => ?_)
      · replace hm := in_e hm c56
        exact zx_lv [1, 2, 3] [(0, .ref (x0)), (1, .int (x1)), (2, .int (x2))] rfl (j_X12_keepChosen_76 C htab hin hrc31   hm)
      · replace hm := ip_e hm c56
        refine zx_aload_n C dX12_keepChosen_71 1 rfl ?_
        refine zx_iload_n C dX12_keepChosen_72 2 rfl ?_
        obtain ⟨v60, ρ61, h62, hm⟩ := cll_e hm
        refine zx_callV (σ := sI (σ) (a37) ((y36).toNatClampNeg) ((tI (σ) (a37) ((y36).toNatClampNeg)) + (1))) C [.int (x1)] tC_11 k12 i13 Y_X12_keep W_7_228 W_7_230 Wp_68 (c_X12_keep h62) (by decide) (by decide) rfl (Nat.le_of_ble_eq_true rfl) dX12_keepChosen_73 rfl ?_
        exact zx_lv [1, 2, 3] [(0, .ref (x0)), (1, .int (x1)), (2, .int (x2))] rfl (j_X12_keepChosen_76 C htab hin hrc31   hm)
set_option maxRecDepth 100000 in
set_option maxHeartbeats 1000000 in
theorem l_X12_keepChosen_7 {p : Program} {l : Launch} {e : Env} {s : State} {m : MethodId} {args : Array Value} {below : List Frame} {meth : Method} {c : Code} {D : va_G} {aC : Nat → ClassId} {b0 fu : Nat} {σ0 τ : tM} {v : Unit}  (C : tCx p l s m args meth c yX12_keepChosen.cls cX12_keepChosen 4 none D aC b0 σ0) (htab : ∀ x ∈ c.exceptionTable.toList, False) (hin : meth.name = yX12_keepChosen.name)  : ∀ (n : Nat) (x0 : Nat) (x1 : Int32) (x2 : Int32) (σ : tM), L_X12_keepChosen_7 b0 fu  n x0 x1 x2 σ = some (v, τ) → tX p l e s m args below meth c 4 2 48 D aC b0 σ0 (.inl none) τ 7 [(0, .ref (x0)), (1, .int (x1)), (2, .int (x2))] [] σ := by
  intro n
  induction n with
  | zero => intro x0 x1 x2 σ hm; unfold L_X12_keepChosen_7 at hm; cases hm
  | succ n ih =>
    intro x0 x1 x2 σ hm
    unfold L_X12_keepChosen_7 at hm
    obtain ⟨rc7, hrc⟩ : ∃ z, z = L_X12_keepChosen_7 b0 fu  n := ⟨_, rfl⟩
    replace hm := ltb_e hm hrc
    rw [← hrc] at ih
    have hrc7 := ih
    clear ih hrc
    refine zx_iload_n C dX12_keepChosen_7 2 rfl ?_
    refine zx_aload_n C dX12_keepChosen_8 0 rfl ?_
    obtain ⟨k4, i5, hm⟩ := ckO_e hm
    obtain ⟨a6, h7, hm⟩ := osm_e hm
    refine zx_get (j := 54) C tC_11 k4 i5 ⟨by decide, Or.inl W_7_33⟩ dX12_keepChosen_9 (.ref a6) (rf_s h7) ?_
    obtain ⟨n10, k8, i9, hm⟩ := ckR_e hm
    refine zx_alen C k8 (by decide) i9 dX12_keepChosen_12 ?_
    refine zx_icmp_ge C 29 dX12_keepChosen_13 (by decide) (fun c11 => ?_) (fun c11 => ?_)
    · replace hm := ip_e hm c11
      refine zx_iconst (v := 0) C dX12_keepChosen_29 (by decide) ?_
      refine zx_istore_n C [(2, .int (0)), (0, .ref (x0)), (1, .int (x1))] dX12_keepChosen_30 rfl (by decide) rfl ?_
      exact zx_lv [1, 2, 0] [(0, .ref (x0)), (1, .int (x1)), (2, .int (0))] rfl (l_X12_keepChosen_31 C htab hin  _ _ _ _ _ hm)
    · replace hm := in_e hm c11
      refine zx_aload_n C dX12_keepChosen_16 0 rfl ?_
      obtain ⟨a63, h64, hm⟩ := osm_e hm
      refine zx_get (j := 54) C tC_11 k4 i5 ⟨by decide, Or.inl W_7_33⟩ dX12_keepChosen_17 (.ref a63) (rf_s h64) ?_
      refine zx_iload_n C dX12_keepChosen_20 2 rfl ?_
      refine zx_iconst (v := 0) C dX12_keepChosen_21 (by decide) ?_
      obtain ⟨n67, k65, i66, hm⟩ := ckR_e hm
      obtain ⟨h68, hm⟩ := ckI_e hm
      refine zx_iast C k65 i66 h68 dX12_keepChosen_22 ?_
      obtain ⟨y69, hy69⟩ : ∃ z : Int32, z = (x2) + Int32.ofInt 1 := ⟨_, rfl⟩
      replace hm := ltb_e hm hy69
      refine zx_iinc C [(2, .int (y69)), (0, .ref (x0)), (1, .int (x1))] dX12_keepChosen_23 2 rfl hy69.symm (by decide) rfl ?_
      refine zx_goto C 7 dX12_keepChosen_26 (by decide) ?_
      exact zx_lv [1, 2, 0] [(0, .ref (x0)), (1, .int (x1)), (2, .int (y69))] rfl (hrc7 _ _ _ _ hm)
set_option maxRecDepth 100000 in
set_option maxHeartbeats 1000000 in
theorem c_X12_keepChosen {l : Launch} {D : va_G} {aC : Nat → ClassId} {b0 fu : Nat} {a0 : Nat} {σ τ : tM} {v : Unit} (hm : m_X12_keepChosen b0 fu a0 σ = some (v, τ)) : tMt l D aC b0 yX12_keepChosen (Cond.code yX12_keepChosen cX12_keepChosen 4 none) 2 48 [.ref (a0)] σ (.inl none) τ := by
  unfold m_X12_keepChosen at hm
  obtain ⟨hg, hm⟩ := grw_e hm
  refine tMt_of (n := 0) rfl (Nat.le_of_ble_eq_true rfl) hg ?_
  intro p e s m below meth c C htab hin
  refine zx_lv [0] [(0, .ref (a0))] rfl ?_
  refine zx_aload_n C dX12_keepChosen_0 0 rfl ?_
  obtain ⟨k1, i2, hm⟩ := ckO_e hm
  refine zx_get (j := 15) C tC_11 k1 i2 ⟨by decide, Or.inl W_6_234⟩ dX12_keepChosen_1 (.int (tI (σ) (a0) 15)) rfl ?_
  refine zx_topi (fun y3 hy3 => ?_)
  replace hm := ltb_e hm hy3
  refine zx_istore_n C [(1, .int (y3)), (0, .ref (a0))] dX12_keepChosen_4 rfl (by decide) rfl ?_
  refine zx_iconst (v := 0) C dX12_keepChosen_5 (by decide) ?_
  refine zx_istore_n C [(2, .int (0)), (1, .int (y3)), (0, .ref (a0))] dX12_keepChosen_6 rfl (by decide) rfl ?_
  exact zx_lv [2, 1, 0] [(0, .ref (a0)), (1, .int (y3)), (2, .int (0))] rfl (l_X12_keepChosen_7 C htab hin  _ _ _ _ _ hm)
