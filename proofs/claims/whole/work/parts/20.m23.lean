abbrev cX8_obtain : ByteArray := prog_10_method_29_code
def yX8_obtain : MethodName := ⟨"SyncTree$Tree", "obtain", "(II)V"⟩
theorem Y_X8_obtain : tY yX8_obtain cX8_obtain 5 none 2 := ⟨W_4_202, W_1_4, ⟨by decide +kernel, by decide +kernel⟩, by decide +kernel⟩
theorem dX8_obtain_0 : decode cX8_obtain 0 = .ok (.iload_n 2, 1) := by decide +kernel
theorem dX8_obtain_1 : decode cX8_obtain 1 = .ok (.ifCond .lt 21, 3) := by decide +kernel
theorem dX8_obtain_4 : decode cX8_obtain 4 = .ok (.iload_n 2, 1) := by decide +kernel
theorem dX8_obtain_5 : decode cX8_obtain 5 = .ok (.sipush 1064, 3) := by decide +kernel
theorem dX8_obtain_8 : decode cX8_obtain 8 = .ok (.if_icmp .ge 14, 3) := by decide +kernel
theorem dX8_obtain_11 : decode cX8_obtain 11 = .ok (.aload_n 0, 1) := by decide +kernel
theorem dX8_obtain_12 : decode cX8_obtain 12 = .ok (.iload_n 1, 1) := by decide +kernel
theorem dX8_obtain_13 : decode cX8_obtain 13 = .ok (.iload_n 2, 1) := by decide +kernel
theorem dX8_obtain_14 : decode cX8_obtain 14 = .ok (.invokevirtual 112, 3) := by decide +kernel
theorem dX8_obtain_17 : decode cX8_obtain 17 = .ok (.lconst 0, 1) := by decide +kernel
theorem dX8_obtain_18 : decode cX8_obtain 18 = .ok (.lcmp, 1) := by decide +kernel
theorem dX8_obtain_19 : decode cX8_obtain 19 = .ok (.ifCond .eq 4, 3) := by decide +kernel
theorem dX8_obtain_22 : decode cX8_obtain 22 = .ok (.return_, 1) := by decide +kernel
theorem dX8_obtain_23 : decode cX8_obtain 23 = .ok (.iload_n 2, 1) := by decide +kernel
theorem dX8_obtain_24 : decode cX8_obtain 24 = .ok (.bipush 40, 2) := by decide +kernel
theorem dX8_obtain_26 : decode cX8_obtain 26 = .ok (.if_icmp .lt 31, 3) := by decide +kernel
theorem dX8_obtain_29 : decode cX8_obtain 29 = .ok (.aload_n 0, 1) := by decide +kernel
theorem dX8_obtain_30 : decode cX8_obtain 30 = .ok (.iload_n 1, 1) := by decide +kernel
theorem dX8_obtain_31 : decode cX8_obtain 31 = .ok (.bipush 10, 2) := by decide +kernel
theorem dX8_obtain_33 : decode cX8_obtain 33 = .ok (.invokevirtual 30, 3) := by decide +kernel
theorem dX8_obtain_36 : decode cX8_obtain 36 = .ok (.lconst 0, 1) := by decide +kernel
theorem dX8_obtain_37 : decode cX8_obtain 37 = .ok (.lcmp, 1) := by decide +kernel
theorem dX8_obtain_38 : decode cX8_obtain 38 = .ok (.ifCond .ne 19, 3) := by decide +kernel
theorem dX8_obtain_41 : decode cX8_obtain 41 = .ok (.aload_n 0, 1) := by decide +kernel
theorem dX8_obtain_42 : decode cX8_obtain 42 = .ok (.iload_n 1, 1) := by decide +kernel
theorem dX8_obtain_43 : decode cX8_obtain 43 = .ok (.bipush 10, 2) := by decide +kernel
theorem dX8_obtain_45 : decode cX8_obtain 45 = .ok (.aload_n 0, 1) := by decide +kernel
theorem dX8_obtain_46 : decode cX8_obtain 46 = .ok (.getfield 15, 3) := by decide +kernel
theorem dX8_obtain_49 : decode cX8_obtain 49 = .ok (.iload_n 1, 1) := by decide +kernel
theorem dX8_obtain_50 : decode cX8_obtain 50 = .ok (.iconst 1, 1) := by decide +kernel
theorem dX8_obtain_51 : decode cX8_obtain 51 = .ok (.invokevirtual 115, 3) := by decide +kernel
theorem dX8_obtain_54 : decode cX8_obtain 54 = .ok (.invokevirtual 36, 3) := by decide +kernel
theorem dX8_obtain_57 : decode cX8_obtain 57 = .ok (.iload_n 2, 1) := by decide +kernel
theorem dX8_obtain_58 : decode cX8_obtain 58 = .ok (.bipush 8, 2) := by decide +kernel
theorem dX8_obtain_60 : decode cX8_obtain 60 = .ok (.if_icmp .lt 66, 3) := by decide +kernel
theorem dX8_obtain_63 : decode cX8_obtain 63 = .ok (.aload_n 0, 1) := by decide +kernel
theorem dX8_obtain_64 : decode cX8_obtain 64 = .ok (.iload_n 1, 1) := by decide +kernel
theorem dX8_obtain_65 : decode cX8_obtain 65 = .ok (.iload_n 2, 1) := by decide +kernel
theorem dX8_obtain_66 : decode cX8_obtain 66 = .ok (.invokevirtual 101, 3) := by decide +kernel
theorem dX8_obtain_69 : decode cX8_obtain 69 = .ok (.lconst 0, 1) := by decide +kernel
theorem dX8_obtain_70 : decode cX8_obtain 70 = .ok (.lcmp, 1) := by decide +kernel
theorem dX8_obtain_71 : decode cX8_obtain 71 = .ok (.ifCond .ne 55, 3) := by decide +kernel
theorem dX8_obtain_74 : decode cX8_obtain 74 = .ok (.aload_n 0, 1) := by decide +kernel
theorem dX8_obtain_75 : decode cX8_obtain 75 = .ok (.getfield 15, 3) := by decide +kernel
theorem dX8_obtain_78 : decode cX8_obtain 78 = .ok (.iload_n 1, 1) := by decide +kernel
theorem dX8_obtain_79 : decode cX8_obtain 79 = .ok (.iconst 1, 1) := by decide +kernel
theorem dX8_obtain_80 : decode cX8_obtain 80 = .ok (.invokevirtual 115, 3) := by decide +kernel
theorem dX8_obtain_83 : decode cX8_obtain 83 = .ok (.lstore_n 3, 1) := by decide +kernel
theorem dX8_obtain_84 : decode cX8_obtain 84 = .ok (.iload_n 2, 1) := by decide +kernel
theorem dX8_obtain_85 : decode cX8_obtain 85 = .ok (.bipush 40, 2) := by decide +kernel
theorem dX8_obtain_87 : decode cX8_obtain 87 = .ok (.if_icmp .ge 14, 3) := by decide +kernel
theorem dX8_obtain_90 : decode cX8_obtain 90 = .ok (.aload_n 0, 1) := by decide +kernel
theorem dX8_obtain_91 : decode cX8_obtain 91 = .ok (.iload_n 1, 1) := by decide +kernel
theorem dX8_obtain_92 : decode cX8_obtain 92 = .ok (.bipush 9, 2) := by decide +kernel
theorem dX8_obtain_94 : decode cX8_obtain 94 = .ok (.lload_n 3, 1) := by decide +kernel
theorem dX8_obtain_95 : decode cX8_obtain 95 = .ok (.invokevirtual 36, 3) := by decide +kernel
theorem dX8_obtain_98 : decode cX8_obtain 98 = .ok (.goto 28, 3) := by decide +kernel
theorem dX8_obtain_101 : decode cX8_obtain 101 = .ok (.aload_n 0, 1) := by decide +kernel
theorem dX8_obtain_102 : decode cX8_obtain 102 = .ok (.getfield 15, 3) := by decide +kernel
theorem dX8_obtain_105 : decode cX8_obtain 105 = .ok (.aload_n 0, 1) := by decide +kernel
theorem dX8_obtain_106 : decode cX8_obtain 106 = .ok (.iload_n 1, 1) := by decide +kernel
theorem dX8_obtain_107 : decode cX8_obtain 107 = .ok (.bipush 10, 2) := by decide +kernel
theorem dX8_obtain_109 : decode cX8_obtain 109 = .ok (.invokevirtual 30, 3) := by decide +kernel
theorem dX8_obtain_112 : decode cX8_obtain 112 = .ok (.invokestatic 104, 3) := by decide +kernel
theorem dX8_obtain_115 : decode cX8_obtain 115 = .ok (.iload_n 2, 1) := by decide +kernel
theorem dX8_obtain_116 : decode cX8_obtain 116 = .ok (.bipush 40, 2) := by decide +kernel
theorem dX8_obtain_118 : decode cX8_obtain 118 = .ok (.isub, 1) := by decide +kernel
theorem dX8_obtain_119 : decode cX8_obtain 119 = .ok (.bipush 32, 2) := by decide +kernel
theorem dX8_obtain_121 : decode cX8_obtain 121 = .ok (.idiv, 1) := by decide +kernel
theorem dX8_obtain_122 : decode cX8_obtain 122 = .ok (.lload_n 3, 1) := by decide +kernel
theorem dX8_obtain_123 : decode cX8_obtain 123 = .ok (.invokevirtual 108, 3) := by decide +kernel
theorem dX8_obtain_126 : decode cX8_obtain 126 = .ok (.aload_n 0, 1) := by decide +kernel
theorem dX8_obtain_127 : decode cX8_obtain 127 = .ok (.iload_n 1, 1) := by decide +kernel
theorem dX8_obtain_128 : decode cX8_obtain 128 = .ok (.iload_n 2, 1) := by decide +kernel
theorem dX8_obtain_129 : decode cX8_obtain 129 = .ok (.aload_n 0, 1) := by decide +kernel
theorem dX8_obtain_130 : decode cX8_obtain 130 = .ok (.getfield 15, 3) := by decide +kernel
theorem dX8_obtain_133 : decode cX8_obtain 133 = .ok (.iload_n 1, 1) := by decide +kernel
theorem dX8_obtain_134 : decode cX8_obtain 134 = .ok (.aload_n 0, 1) := by decide +kernel
theorem dX8_obtain_135 : decode cX8_obtain 135 = .ok (.iload_n 1, 1) := by decide +kernel
theorem dX8_obtain_136 : decode cX8_obtain 136 = .ok (.invokevirtual 40, 3) := by decide +kernel
theorem dX8_obtain_139 : decode cX8_obtain 139 = .ok (.iconst 2, 1) := by decide +kernel
theorem dX8_obtain_140 : decode cX8_obtain 140 = .ok (.if_icmp .ne 7, 3) := by decide +kernel
theorem dX8_obtain_143 : decode cX8_obtain 143 = .ok (.iconst 1, 1) := by decide +kernel
theorem dX8_obtain_144 : decode cX8_obtain 144 = .ok (.goto 4, 3) := by decide +kernel
theorem dX8_obtain_147 : decode cX8_obtain 147 = .ok (.iconst 0, 1) := by decide +kernel
theorem dX8_obtain_148 : decode cX8_obtain 148 = .ok (.invokevirtual 115, 3) := by decide +kernel
theorem dX8_obtain_151 : decode cX8_obtain 151 = .ok (.invokevirtual 119, 3) := by decide +kernel
theorem dX8_obtain_154 : decode cX8_obtain 154 = .ok (.aload_n 0, 1) := by decide +kernel
theorem dX8_obtain_155 : decode cX8_obtain 155 = .ok (.iload_n 1, 1) := by decide +kernel
theorem dX8_obtain_156 : decode cX8_obtain 156 = .ok (.iconst 1, 1) := by decide +kernel
theorem dX8_obtain_157 : decode cX8_obtain 157 = .ok (.invokevirtual 63, 3) := by decide +kernel
theorem dX8_obtain_160 : decode cX8_obtain 160 = .ok (.return_, 1) := by decide +kernel
def J_X8_obtain_22 (b0 fu : Nat)   (σ : tM) : Option ((Unit) × tM) := some ((), σ)
def J_X8_obtain_148 (b0 fu : Nat)  (x0 : Nat) (x1 : Int32) (s0 : Nat) (s1 : Int32) (s2 : Int32) (s3 : Nat) (s4 : Int32) (s5 : Int32) (σ : tM) : Option ((Unit) × tM) := ckO b0 (σ) (s3) 5 (cll (m_X5_obtain b0 fu (s3) (s4) (s5) (σ)) (fun v21 ρ22 => ckO b0 (ρ22) (s0) 8 (cll (m_X8_setPointer b0 fu (s0) (s1) (s2) (v21) (ρ22)) (fun v26 ρ27 => ckO b0 (ρ27) (x0) 8 (cll (m_X8_noteChange b0 fu (x0) (x1) (1) (ρ27)) (fun v31 ρ32 => some ((), ρ32)))))))
def J_X8_obtain_126 (b0 fu : Nat)  (x0 : Nat) (x1 : Int32) (x2 : Int32) (σ : tM) : Option ((Unit) × tM) := ckO b0 (σ) (x0) 8 (osm (tA (σ) (x0) 0) (fun a13 => cll (m_X8_kind b0 fu (x0) (x1) (σ)) (fun v15 ρ16 => if (v15) = (2) then J_X8_obtain_148 b0 fu   (x0) (x1) (x0) (x1) (x2) (a13) (x1) (1) (ρ16) else J_X8_obtain_148 b0 fu   (x0) (x1) (x0) (x1) (x2) (a13) (x1) (0) (ρ16))))
def J_X8_obtain_57 (b0 fu : Nat)  (x0 : Nat) (x1 : Int32) (x2 : Int32) (σ : tM) : Option ((Unit) × tM) := if (x2) < (8) then J_X8_obtain_126 b0 fu   (x0) (x1) (x2) (σ) else ckO b0 (σ) (x0) 8 (cll (m_X8_table b0 fu (x0) (x1) (x2) (σ)) (fun v36 ρ37 => if (lg_cmp (v36) (0)) = (0) then ckO b0 (ρ37) (x0) 8 (osm (tA (ρ37) (x0) 0) (fun a42 => ckO b0 (ρ37) (a42) 5 (cll (m_X5_obtain b0 fu (a42) (x1) (1) (ρ37)) (fun v46 ρ47 => if (40) ≤ (x2) then ckO b0 (ρ47) (x0) 8 (osm (tA (ρ47) (x0) 0) (fun a52 => cll (m_X8_nodeWord b0 fu (x0) (x1) (10) (ρ47)) (fun v54 ρ55 => cll (m_X8_cellOf b0 fu (v54) (ρ55)) (fun v57 ρ58 => ckO b0 (ρ58) (a52) 5 (cll (m_X5_setWord b0 fu (a52) (v57) (((x2) - (40)) / (32)) (v46) (ρ58)) (fun v62 ρ63 => J_X8_obtain_126 b0 fu   (x0) (x1) (x2) (ρ63))))))) else ckO b0 (ρ47) (x0) 8 (cll (m_X8_setNodeWord b0 fu (x0) (x1) (9) (v46) (ρ47)) (fun v68 ρ69 => J_X8_obtain_126 b0 fu   (x0) (x1) (x2) (ρ69))))))) else J_X8_obtain_126 b0 fu   (x0) (x1) (x2) (ρ37)))
def m_X8_obtain (b0 fu : Nat) (a0 : Nat) (p0 : Int32) (p1 : Int32) (σ : tM) : Option ((Unit) × tM) := grw σ (if (p1) < (0) then J_X8_obtain_22 b0 fu    (σ) else if (1064) ≤ (p1) then J_X8_obtain_22 b0 fu    (σ) else ckO b0 (σ) (a0) 8 (cll (m_X8_pointer b0 fu (a0) (p0) (p1) (σ)) (fun v5 ρ6 => if (lg_cmp (v5) (0)) = (0) then if (p1) < (40) then J_X8_obtain_57 b0 fu   (a0) (p0) (p1) (ρ6) else ckO b0 (ρ6) (a0) 8 (cll (m_X8_nodeWord b0 fu (a0) (p0) (10) (ρ6)) (fun v73 ρ74 => if (lg_cmp (v73) (0)) = (0) then ckO b0 (ρ74) (a0) 8 (osm (tA (ρ74) (a0) 0) (fun a79 => ckO b0 (ρ74) (a79) 5 (cll (m_X5_obtain b0 fu (a79) (p0) (1) (ρ74)) (fun v83 ρ84 => ckO b0 (ρ84) (a0) 8 (cll (m_X8_setNodeWord b0 fu (a0) (p0) (10) (v83) (ρ84)) (fun v88 ρ89 => J_X8_obtain_57 b0 fu   (a0) (p0) (p1) (ρ89))))))) else J_X8_obtain_57 b0 fu   (a0) (p0) (p1) (ρ74))) else J_X8_obtain_22 b0 fu    (ρ6))))
set_option maxRecDepth 100000 in
set_option maxHeartbeats 1000000 in
theorem j_X8_obtain_22 {p : Program} {l : Launch} {e : Env} {s : State} {m : MethodId} {args : Array Value} {below : List Frame} {meth : Method} {c : Code} {D : va_G} {aC : Nat → ClassId} {b0 fu : Nat} {σ0 τ : tM} {v : Unit}  (C : tCx p l s m args meth c yX8_obtain.cls cX8_obtain 5 none D aC b0 σ0) (htab : ∀ x ∈ c.exceptionTable.toList, False) (hin : meth.name = yX8_obtain.name)   {σ : tM} (hm : J_X8_obtain_22 b0 fu   σ = some (v, τ)) : tX p l e s m args below meth c 5 3 72 D aC b0 σ0 (.inl none) τ 22 [] [] σ := by
  unfold J_X8_obtain_22 at hm
  obtain ⟨rfl, rfl⟩ := ret_e hm
  exact zx_vret C rfl rfl rfl dX8_obtain_22
set_option maxRecDepth 100000 in
set_option maxHeartbeats 1000000 in
theorem j_X8_obtain_148 {p : Program} {l : Launch} {e : Env} {s : State} {m : MethodId} {args : Array Value} {below : List Frame} {meth : Method} {c : Code} {D : va_G} {aC : Nat → ClassId} {b0 fu : Nat} {σ0 τ : tM} {v : Unit}  (C : tCx p l s m args meth c yX8_obtain.cls cX8_obtain 5 none D aC b0 σ0) (htab : ∀ x ∈ c.exceptionTable.toList, False) (hin : meth.name = yX8_obtain.name)  {x0 : Nat} {x1 : Int32} {s0 : Nat} {s1 : Int32} {s2 : Int32} {s3 : Nat} {s4 : Int32} {s5 : Int32} {σ : tM} (hm : J_X8_obtain_148 b0 fu  x0 x1 s0 s1 s2 s3 s4 s5 σ = some (v, τ)) : tX p l e s m args below meth c 5 3 72 D aC b0 σ0 (.inl none) τ 148 [(0, .ref (x0)), (1, .int (x1))] [.int (s5), .int (s4), .ref (s3), .int (s2), .int (s1), .ref (s0)] σ := by
  unfold J_X8_obtain_148 at hm
  obtain ⟨k19, i20, hm⟩ := ckO_e hm
  obtain ⟨v21, ρ22, h23, hm⟩ := cll_e hm
  refine zx_callV (σ := σ) C [.int (s4), .int (s5)] tC_5 k19 i20 Y_X5_obtain W_4_203 W_4_204 W_4_205 (c_X5_obtain h23) (by decide) (by decide) rfl (Nat.le_of_ble_eq_true rfl) dX8_obtain_148 rfl ?_
  obtain ⟨k24, i25, hm⟩ := ckO_e hm
  obtain ⟨v26, ρ27, h28, hm⟩ := cll_e hm
  refine zx_callV (σ := ρ22) C [.int (s1), .int (s2), .long (v21)] tC_8 k24 i25 Y_X8_setPointer W_4_220 W_4_222 Wp_31 (c_X8_setPointer h28) (by decide) (by decide) rfl (Nat.le_of_ble_eq_true rfl) dX8_obtain_151 rfl ?_
  refine zx_aload_n C dX8_obtain_154 0 rfl ?_
  refine zx_iload_n C dX8_obtain_155 1 rfl ?_
  refine zx_iconst (v := 1) C dX8_obtain_156 (by decide) ?_
  obtain ⟨k29, i30, hm⟩ := ckO_e hm
  obtain ⟨v31, ρ32, h33, hm⟩ := cll_e hm
  refine zx_callV (σ := ρ27) C [.int (x1), .int (1)] tC_8 k29 i30 Y_X8_noteChange W_2_160 W_2_162 Wp_7 (c_X8_noteChange h33) (by decide) (by decide) rfl (Nat.le_of_ble_eq_true rfl) dX8_obtain_157 rfl ?_
  obtain ⟨rfl, rfl⟩ := ret_e hm
  exact zx_vret C rfl rfl rfl dX8_obtain_160
set_option maxRecDepth 100000 in
set_option maxHeartbeats 1000000 in
theorem j_X8_obtain_126 {p : Program} {l : Launch} {e : Env} {s : State} {m : MethodId} {args : Array Value} {below : List Frame} {meth : Method} {c : Code} {D : va_G} {aC : Nat → ClassId} {b0 fu : Nat} {σ0 τ : tM} {v : Unit}  (C : tCx p l s m args meth c yX8_obtain.cls cX8_obtain 5 none D aC b0 σ0) (htab : ∀ x ∈ c.exceptionTable.toList, False) (hin : meth.name = yX8_obtain.name)  {x0 : Nat} {x1 : Int32} {x2 : Int32} {σ : tM} (hm : J_X8_obtain_126 b0 fu  x0 x1 x2 σ = some (v, τ)) : tX p l e s m args below meth c 5 3 72 D aC b0 σ0 (.inl none) τ 126 [(0, .ref (x0)), (1, .int (x1)), (2, .int (x2))] [] σ := by
  unfold J_X8_obtain_126 at hm
  refine zx_aload_n C dX8_obtain_126 0 rfl ?_
  refine zx_iload_n C dX8_obtain_127 1 rfl ?_
  refine zx_iload_n C dX8_obtain_128 2 rfl ?_
  refine zx_aload_n C dX8_obtain_129 0 rfl ?_
  obtain ⟨k11, i12, hm⟩ := ckO_e hm
  obtain ⟨a13, h14, hm⟩ := osm_e hm
  refine zx_get (j := 0) C tC_8 k11 i12 ⟨by decide, Or.inl W_1_163⟩ dX8_obtain_130 (.ref a13) (rf_s h14) ?_
  refine zx_iload_n C dX8_obtain_133 1 rfl ?_
  refine zx_aload_n C dX8_obtain_134 0 rfl ?_
  refine zx_iload_n C dX8_obtain_135 1 rfl ?_
  obtain ⟨v15, ρ16, h17, hm⟩ := cll_e hm
  refine zx_callV (σ := σ) C [.int (x1)] tC_8 k11 i12 Y_X8_kind W_3_79 W_3_80 W_3_81 (c_X8_kind h17) (by decide) (by decide) rfl (Nat.le_of_ble_eq_true rfl) dX8_obtain_136 rfl ?_
  refine zx_iconst (v := 2) C dX8_obtain_139 (by decide) ?_
  refine zx_icmp_ne C 147 dX8_obtain_140 (by decide) (fun c18 => ?_) (fun c18 => ?_)
  · replace hm := in_e hm c18
    refine zx_iconst (v := 0) C dX8_obtain_147 (by decide) ?_
    exact zx_lv [0, 1] [(0, .ref (x0)), (1, .int (x1))] rfl (j_X8_obtain_148 C htab hin    hm)
  · replace hm := ip_e hm c18
    refine zx_iconst (v := 1) C dX8_obtain_143 (by decide) ?_
    refine zx_goto C 148 dX8_obtain_144 (by decide) ?_
    exact zx_lv [0, 1] [(0, .ref (x0)), (1, .int (x1))] rfl (j_X8_obtain_148 C htab hin    hm)
set_option maxRecDepth 100000 in
set_option maxHeartbeats 1000000 in
theorem j_X8_obtain_57 {p : Program} {l : Launch} {e : Env} {s : State} {m : MethodId} {args : Array Value} {below : List Frame} {meth : Method} {c : Code} {D : va_G} {aC : Nat → ClassId} {b0 fu : Nat} {σ0 τ : tM} {v : Unit}  (C : tCx p l s m args meth c yX8_obtain.cls cX8_obtain 5 none D aC b0 σ0) (htab : ∀ x ∈ c.exceptionTable.toList, False) (hin : meth.name = yX8_obtain.name)  {x0 : Nat} {x1 : Int32} {x2 : Int32} {σ : tM} (hm : J_X8_obtain_57 b0 fu  x0 x1 x2 σ = some (v, τ)) : tX p l e s m args below meth c 5 3 72 D aC b0 σ0 (.inl none) τ 57 [(0, .ref (x0)), (1, .int (x1)), (2, .int (x2))] [] σ := by
  unfold J_X8_obtain_57 at hm
  refine zx_iload_n C dX8_obtain_57 2 rfl ?_
  refine zx_bipush (v := 8) C dX8_obtain_58 (by decide) ?_
  refine zx_icmp_lt C 126 dX8_obtain_60 (by decide) (fun c10 => ?_) (fun c10 => ?_)
  · replace hm := ip_e hm c10
    exact zx_lv [0, 1, 2] [(0, .ref (x0)), (1, .int (x1)), (2, .int (x2))] rfl (j_X8_obtain_126 C htab hin    hm)
  · replace hm := in_e hm c10
    refine zx_aload_n C dX8_obtain_63 0 rfl ?_
    refine zx_iload_n C dX8_obtain_64 1 rfl ?_
    refine zx_iload_n C dX8_obtain_65 2 rfl ?_
    obtain ⟨k34, i35, hm⟩ := ckO_e hm
    obtain ⟨v36, ρ37, h38, hm⟩ := cll_e hm
    refine zx_callV (σ := σ) C [.int (x1), .int (x2)] tC_8 k34 i35 Y_X8_table W_4_113 W_4_115 Wp_25 (c_X8_table h38) (by decide) (by decide) rfl (Nat.le_of_ble_eq_true rfl) dX8_obtain_66 rfl ?_
    refine zx_lconst (v := 0) C dX8_obtain_69 (by decide) ?_
    refine zx_lcmp C dX8_obtain_70 ?_
    refine zx_if_ne C 126 dX8_obtain_71 (by decide) (fun c39 => ?_) (fun c39 => ?_)
    · replace hm := in_e hm c39
      exact zx_lv [0, 1, 2] [(0, .ref (x0)), (1, .int (x1)), (2, .int (x2))] rfl (j_X8_obtain_126 C htab hin    hm)
    · replace hm := ip_e hm c39
      refine zx_aload_n C dX8_obtain_74 0 rfl ?_
      obtain ⟨k40, i41, hm⟩ := ckO_e hm
      obtain ⟨a42, h43, hm⟩ := osm_e hm
      refine zx_get (j := 0) C tC_8 k40 i41 ⟨by decide, Or.inl W_1_163⟩ dX8_obtain_75 (.ref a42) (rf_s h43) ?_
      refine zx_iload_n C dX8_obtain_78 1 rfl ?_
      refine zx_iconst (v := 1) C dX8_obtain_79 (by decide) ?_
      obtain ⟨k44, i45, hm⟩ := ckO_e hm
      obtain ⟨v46, ρ47, h48, hm⟩ := cll_e hm
      refine zx_callV (σ := ρ37) C [.int (x1), .int (1)] tC_5 k44 i45 Y_X5_obtain W_4_203 W_4_204 W_4_205 (c_X5_obtain h48) (by decide) (by decide) rfl (Nat.le_of_ble_eq_true rfl) dX8_obtain_80 rfl ?_
      refine zx_lstore_n C [(3, .long (v46)), (0, .ref (x0)), (1, .int (x1)), (2, .int (x2))] dX8_obtain_83 rfl (by decide) rfl ?_
      refine zx_iload_n C dX8_obtain_84 3 rfl ?_
      refine zx_bipush (v := 40) C dX8_obtain_85 (by decide) ?_
      refine zx_icmp_ge C 101 dX8_obtain_87 (by decide) (fun c49 => ?_) (fun c49 => ?_)
      · replace hm := ip_e hm c49
        refine zx_aload_n C dX8_obtain_101 1 rfl ?_
        obtain ⟨k50, i51, hm⟩ := ckO_e hm
        obtain ⟨a52, h53, hm⟩ := osm_e hm
        refine zx_get (j := 0) C tC_8 k50 i51 ⟨by decide, Or.inl W_1_163⟩ dX8_obtain_102 (.ref a52) (rf_s h53) ?_
        refine zx_aload_n C dX8_obtain_105 1 rfl ?_
        refine zx_iload_n C dX8_obtain_106 2 rfl ?_
        refine zx_bipush (v := 10) C dX8_obtain_107 (by decide) ?_
        obtain ⟨v54, ρ55, h56, hm⟩ := cll_e hm
        refine zx_callV (σ := ρ47) C [.int (x1), .int (10)] tC_8 k50 i51 Y_X8_nodeWord W_3_83 W_3_84 W_3_85 (c_X8_nodeWord h56) (by decide) (by decide) rfl (Nat.le_of_ble_eq_true rfl) dX8_obtain_109 rfl ?_
        obtain ⟨v57, ρ58, h59, hm⟩ := cll_e hm
        refine zx_callS (σ := ρ55) C [.long (v54)] Y_X8_cellOf W_4_117 W_4_118 (c_X8_cellOf h59) (by decide) (by decide) rfl (Nat.le_of_ble_eq_true rfl) dX8_obtain_112 rfl ?_
        refine zx_iload_n C dX8_obtain_115 3 rfl ?_
        refine zx_bipush (v := 40) C dX8_obtain_116 (by decide) ?_
        refine zx_isub C dX8_obtain_118 ?_
        refine zx_bipush (v := 32) C dX8_obtain_119 (by decide) ?_
        refine zx_idiv C dX8_obtain_121 (by decide) ?_
        refine zx_lload_n C dX8_obtain_122 0 rfl ?_
        obtain ⟨k60, i61, hm⟩ := ckO_e hm
        obtain ⟨v62, ρ63, h64, hm⟩ := cll_e hm
        refine zx_callV (σ := ρ58) C [.int (v57), .int (((x2) - (40)) / (32)), .long (v46)] tC_5 k60 i61 Y_X5_setWord W_4_216 W_4_217 W_4_218 (c_X5_setWord h64) (by decide) (by decide) rfl (Nat.le_of_ble_eq_true rfl) dX8_obtain_123 rfl ?_
        exact zx_lv [1, 2, 3] [(0, .ref (x0)), (1, .int (x1)), (2, .int (x2))] rfl (j_X8_obtain_126 C htab hin    hm)
      · replace hm := in_e hm c49
        refine zx_aload_n C dX8_obtain_90 1 rfl ?_
        refine zx_iload_n C dX8_obtain_91 2 rfl ?_
        refine zx_bipush (v := 9) C dX8_obtain_92 (by decide) ?_
        refine zx_lload_n C dX8_obtain_94 0 rfl ?_
        obtain ⟨k66, i67, hm⟩ := ckO_e hm
        obtain ⟨v68, ρ69, h70, hm⟩ := cll_e hm
        refine zx_callV (σ := ρ47) C [.int (x1), .int (9), .long (v46)] tC_8 k66 i67 Y_X8_setNodeWord W_2_152 W_2_154 Wp_6 (c_X8_setNodeWord h70) (by decide) (by decide) rfl (Nat.le_of_ble_eq_true rfl) dX8_obtain_95 rfl ?_
        refine zx_goto C 126 dX8_obtain_98 (by decide) ?_
        exact zx_lv [1, 2, 3] [(0, .ref (x0)), (1, .int (x1)), (2, .int (x2))] rfl (j_X8_obtain_126 C htab hin    hm)
set_option maxRecDepth 100000 in
set_option maxHeartbeats 1000000 in
theorem c_X8_obtain {l : Launch} {D : va_G} {aC : Nat → ClassId} {b0 fu : Nat} {a0 : Nat} {p0 : Int32} {p1 : Int32} {σ τ : tM} {v : Unit} (hm : m_X8_obtain b0 fu a0 p0 p1 σ = some (v, τ)) : tMt l D aC b0 yX8_obtain (Cond.code yX8_obtain cX8_obtain 5 none) 3 72 [.ref (a0), .int (p0), .int (p1)] σ (.inl none) τ := by
  unfold m_X8_obtain at hm
  obtain ⟨hg, hm⟩ := grw_e hm
  refine tMt_of (n := 0) rfl (Nat.le_of_ble_eq_true rfl) hg ?_
  intro p e s m below meth c C htab hin
  refine zx_lv [0, 1, 2] [(0, .ref (a0)), (1, .int (p0)), (2, .int (p1))] rfl ?_
  refine zx_iload_n C dX8_obtain_0 2 rfl ?_
  refine zx_if_lt C 22 dX8_obtain_1 (by decide) (fun c1 => ?_) (fun c1 => ?_)
  · replace hm := ip_e hm c1
    exact zx_lv [] [] rfl (j_X8_obtain_22 C htab hin    hm)
  · replace hm := in_e hm c1
    refine zx_iload_n C dX8_obtain_4 2 rfl ?_
    refine zx_sipush (v := 1064) C dX8_obtain_5 (by decide) ?_
    refine zx_icmp_ge C 22 dX8_obtain_8 (by decide) (fun c2 => ?_) (fun c2 => ?_)
    · replace hm := ip_e hm c2
      exact zx_lv [] [] rfl (j_X8_obtain_22 C htab hin    hm)
    · replace hm := in_e hm c2
      refine zx_aload_n C dX8_obtain_11 0 rfl ?_
      refine zx_iload_n C dX8_obtain_12 1 rfl ?_
      refine zx_iload_n C dX8_obtain_13 2 rfl ?_
      obtain ⟨k3, i4, hm⟩ := ckO_e hm
      obtain ⟨v5, ρ6, h7, hm⟩ := cll_e hm
      refine zx_callV (σ := σ) C [.int (p0), .int (p1)] tC_8 k3 i4 Y_X8_pointer W_4_109 W_4_110 W_4_111 (c_X8_pointer h7) (by decide) (by decide) rfl (Nat.le_of_ble_eq_true rfl) dX8_obtain_14 rfl ?_
      refine zx_lconst (v := 0) C dX8_obtain_17 (by decide) ?_
      refine zx_lcmp C dX8_obtain_18 ?_
      refine zx_if_eq C 23 dX8_obtain_19 (by decide) (fun c8 => ?_) (fun c8 => ?_)
      · replace hm := ip_e hm c8
        refine zx_iload_n C dX8_obtain_23 2 rfl ?_
        refine zx_bipush (v := 40) C dX8_obtain_24 (by decide) ?_
        refine zx_icmp_lt C 57 dX8_obtain_26 (by decide) (fun c9 => ?_) (fun c9 => ?_)
        · replace hm := ip_e hm c9
          exact zx_lv [0, 1, 2] [(0, .ref (a0)), (1, .int (p0)), (2, .int (p1))] rfl (j_X8_obtain_57 C htab hin    hm)
        · replace hm := in_e hm c9
          refine zx_aload_n C dX8_obtain_29 0 rfl ?_
          refine zx_iload_n C dX8_obtain_30 1 rfl ?_
          refine zx_bipush (v := 10) C dX8_obtain_31 (by decide) ?_
          obtain ⟨k71, i72, hm⟩ := ckO_e hm
          obtain ⟨v73, ρ74, h75, hm⟩ := cll_e hm
          refine zx_callV (σ := ρ6) C [.int (p0), .int (10)] tC_8 k71 i72 Y_X8_nodeWord W_3_83 W_3_84 W_3_85 (c_X8_nodeWord h75) (by decide) (by decide) rfl (Nat.le_of_ble_eq_true rfl) dX8_obtain_33 rfl ?_
          refine zx_lconst (v := 0) C dX8_obtain_36 (by decide) ?_
          refine zx_lcmp C dX8_obtain_37 ?_
          refine zx_if_ne C 57 dX8_obtain_38 (by decide) (fun c76 => ?_) (fun c76 => ?_)
          · replace hm := in_e hm c76
            exact zx_lv [0, 1, 2] [(0, .ref (a0)), (1, .int (p0)), (2, .int (p1))] rfl (j_X8_obtain_57 C htab hin    hm)
          · replace hm := ip_e hm c76
            refine zx_aload_n C dX8_obtain_41 0 rfl ?_
            refine zx_iload_n C dX8_obtain_42 1 rfl ?_
            refine zx_bipush (v := 10) C dX8_obtain_43 (by decide) ?_
            refine zx_aload_n C dX8_obtain_45 0 rfl ?_
            obtain ⟨k77, i78, hm⟩ := ckO_e hm
            obtain ⟨a79, h80, hm⟩ := osm_e hm
            refine zx_get (j := 0) C tC_8 k77 i78 ⟨by decide, Or.inl W_1_163⟩ dX8_obtain_46 (.ref a79) (rf_s h80) ?_
            refine zx_iload_n C dX8_obtain_49 1 rfl ?_
            refine zx_iconst (v := 1) C dX8_obtain_50 (by decide) ?_
            obtain ⟨k81, i82, hm⟩ := ckO_e hm
            obtain ⟨v83, ρ84, h85, hm⟩ := cll_e hm
            refine zx_callV (σ := ρ74) C [.int (p0), .int (1)] tC_5 k81 i82 Y_X5_obtain W_4_203 W_4_204 W_4_205 (c_X5_obtain h85) (by decide) (by decide) rfl (Nat.le_of_ble_eq_true rfl) dX8_obtain_51 rfl ?_
            obtain ⟨k86, i87, hm⟩ := ckO_e hm
            obtain ⟨v88, ρ89, h90, hm⟩ := cll_e hm
            refine zx_callV (σ := ρ84) C [.int (p0), .int (10), .long (v83)] tC_8 k86 i87 Y_X8_setNodeWord W_2_152 W_2_154 Wp_6 (c_X8_setNodeWord h90) (by decide) (by decide) rfl (Nat.le_of_ble_eq_true rfl) dX8_obtain_54 rfl ?_
            exact zx_lv [0, 1, 2] [(0, .ref (a0)), (1, .int (p0)), (2, .int (p1))] rfl (j_X8_obtain_57 C htab hin    hm)
      · replace hm := in_e hm c8
        exact zx_lv [] [] rfl (j_X8_obtain_22 C htab hin    hm)
abbrev cX8_dropIfEmpty : ByteArray := prog_10_method_31_code
def yX8_dropIfEmpty : MethodName := ⟨"SyncTree$Tree", "dropIfEmpty", "(II)V"⟩
theorem Y_X8_dropIfEmpty : tY yX8_dropIfEmpty cX8_dropIfEmpty 4 none 2 := ⟨W_5_57, W_1_4, ⟨by decide +kernel, by decide +kernel⟩, by decide +kernel⟩
theorem dX8_dropIfEmpty_0 : decode cX8_dropIfEmpty 0 = .ok (.aload_n 0, 1) := by decide +kernel
theorem dX8_dropIfEmpty_1 : decode cX8_dropIfEmpty 1 = .ok (.iload_n 1, 1) := by decide +kernel
theorem dX8_dropIfEmpty_2 : decode cX8_dropIfEmpty 2 = .ok (.iload_n 2, 1) := by decide +kernel
theorem dX8_dropIfEmpty_3 : decode cX8_dropIfEmpty 3 = .ok (.invokevirtual 30, 3) := by decide +kernel
theorem dX8_dropIfEmpty_6 : decode cX8_dropIfEmpty 6 = .ok (.invokestatic 104, 3) := by decide +kernel
theorem dX8_dropIfEmpty_9 : decode cX8_dropIfEmpty 9 = .ok (.istore_n 3, 1) := by decide +kernel
theorem dX8_dropIfEmpty_10 : decode cX8_dropIfEmpty 10 = .ok (.aload_n 0, 1) := by decide +kernel
theorem dX8_dropIfEmpty_11 : decode cX8_dropIfEmpty 11 = .ok (.getfield 15, 3) := by decide +kernel
theorem dX8_dropIfEmpty_14 : decode cX8_dropIfEmpty 14 = .ok (.iload_n 3, 1) := by decide +kernel
theorem dX8_dropIfEmpty_15 : decode cX8_dropIfEmpty 15 = .ok (.iconst 0, 1) := by decide +kernel
theorem dX8_dropIfEmpty_16 : decode cX8_dropIfEmpty 16 = .ok (.invokevirtual 126, 3) := by decide +kernel
theorem dX8_dropIfEmpty_19 : decode cX8_dropIfEmpty 19 = .ok (.ifCond .eq 19, 3) := by decide +kernel
theorem dX8_dropIfEmpty_22 : decode cX8_dropIfEmpty 22 = .ok (.aload_n 0, 1) := by decide +kernel
theorem dX8_dropIfEmpty_23 : decode cX8_dropIfEmpty 23 = .ok (.iload_n 1, 1) := by decide +kernel
theorem dX8_dropIfEmpty_24 : decode cX8_dropIfEmpty 24 = .ok (.iload_n 2, 1) := by decide +kernel
theorem dX8_dropIfEmpty_25 : decode cX8_dropIfEmpty 25 = .ok (.lconst 0, 1) := by decide +kernel
theorem dX8_dropIfEmpty_26 : decode cX8_dropIfEmpty 26 = .ok (.invokevirtual 36, 3) := by decide +kernel
theorem dX8_dropIfEmpty_29 : decode cX8_dropIfEmpty 29 = .ok (.aload_n 0, 1) := by decide +kernel
theorem dX8_dropIfEmpty_30 : decode cX8_dropIfEmpty 30 = .ok (.getfield 15, 3) := by decide +kernel
theorem dX8_dropIfEmpty_33 : decode cX8_dropIfEmpty 33 = .ok (.iload_n 3, 1) := by decide +kernel
theorem dX8_dropIfEmpty_34 : decode cX8_dropIfEmpty 34 = .ok (.iconst 1, 1) := by decide +kernel
theorem dX8_dropIfEmpty_35 : decode cX8_dropIfEmpty 35 = .ok (.invokevirtual 122, 3) := by decide +kernel
theorem dX8_dropIfEmpty_38 : decode cX8_dropIfEmpty 38 = .ok (.return_, 1) := by decide +kernel
def J_X8_dropIfEmpty_38 (b0 fu : Nat)   (σ : tM) : Option ((Unit) × tM) := some ((), σ)
def m_X8_dropIfEmpty (b0 fu : Nat) (a0 : Nat) (p0 : Int32) (p1 : Int32) (σ : tM) : Option ((Unit) × tM) := grw σ (ckO b0 (σ) (a0) 8 (cll (m_X8_nodeWord b0 fu (a0) (p0) (p1) (σ)) (fun v3 ρ4 => cll (m_X8_cellOf b0 fu (v3) (ρ4)) (fun v6 ρ7 => ckO b0 (ρ7) (a0) 8 (osm (tA (ρ7) (a0) 0) (fun a11 => ckO b0 (ρ7) (a11) 5 (cll (m_X5_isZeroFrom b0 fu (a11) (v6) (0) (ρ7)) (fun v15 ρ16 => if (v15) = (0) then J_X8_dropIfEmpty_38 b0 fu    (ρ16) else ckO b0 (ρ16) (a0) 8 (cll (m_X8_setNodeWord b0 fu (a0) (p0) (p1) (0) (ρ16)) (fun v21 ρ22 => ckO b0 (ρ22) (a0) 8 (osm (tA (ρ22) (a0) 0) (fun a26 => ckO b0 (ρ22) (a26) 5 (cll (m_X5_release b0 fu (a26) (v6) (1) (ρ22)) (fun v30 ρ31 => J_X8_dropIfEmpty_38 b0 fu    (ρ31)))))))))))))))
set_option maxRecDepth 100000 in
set_option maxHeartbeats 1000000 in
theorem j_X8_dropIfEmpty_38 {p : Program} {l : Launch} {e : Env} {s : State} {m : MethodId} {args : Array Value} {below : List Frame} {meth : Method} {c : Code} {D : va_G} {aC : Nat → ClassId} {b0 fu : Nat} {σ0 τ : tM} {v : Unit}  (C : tCx p l s m args meth c yX8_dropIfEmpty.cls cX8_dropIfEmpty 4 none D aC b0 σ0) (htab : ∀ x ∈ c.exceptionTable.toList, False) (hin : meth.name = yX8_dropIfEmpty.name)   {σ : tM} (hm : J_X8_dropIfEmpty_38 b0 fu   σ = some (v, τ)) : tX p l e s m args below meth c 4 2 48 D aC b0 σ0 (.inl none) τ 38 [] [] σ := by
  unfold J_X8_dropIfEmpty_38 at hm
  obtain ⟨rfl, rfl⟩ := ret_e hm
  exact zx_vret C rfl rfl rfl dX8_dropIfEmpty_38
set_option maxRecDepth 100000 in
set_option maxHeartbeats 1000000 in
theorem c_X8_dropIfEmpty {l : Launch} {D : va_G} {aC : Nat → ClassId} {b0 fu : Nat} {a0 : Nat} {p0 : Int32} {p1 : Int32} {σ τ : tM} {v : Unit} (hm : m_X8_dropIfEmpty b0 fu a0 p0 p1 σ = some (v, τ)) : tMt l D aC b0 yX8_dropIfEmpty (Cond.code yX8_dropIfEmpty cX8_dropIfEmpty 4 none) 2 48 [.ref (a0), .int (p0), .int (p1)] σ (.inl none) τ := by
  unfold m_X8_dropIfEmpty at hm
  obtain ⟨hg, hm⟩ := grw_e hm
  refine tMt_of (n := 0) rfl (Nat.le_of_ble_eq_true rfl) hg ?_
  intro p e s m below meth c C htab hin
  refine zx_lv [0, 1, 2] [(0, .ref (a0)), (1, .int (p0)), (2, .int (p1))] rfl ?_
  refine zx_aload_n C dX8_dropIfEmpty_0 0 rfl ?_
  refine zx_iload_n C dX8_dropIfEmpty_1 1 rfl ?_
  refine zx_iload_n C dX8_dropIfEmpty_2 2 rfl ?_
  obtain ⟨k1, i2, hm⟩ := ckO_e hm
  obtain ⟨v3, ρ4, h5, hm⟩ := cll_e hm
  refine zx_callV (σ := σ) C [.int (p0), .int (p1)] tC_8 k1 i2 Y_X8_nodeWord W_3_83 W_3_84 W_3_85 (c_X8_nodeWord h5) (by decide) (by decide) rfl (Nat.le_of_ble_eq_true rfl) dX8_dropIfEmpty_3 rfl ?_
  obtain ⟨v6, ρ7, h8, hm⟩ := cll_e hm
  refine zx_callS (σ := ρ4) C [.long (v3)] Y_X8_cellOf W_4_117 W_4_118 (c_X8_cellOf h8) (by decide) (by decide) rfl (Nat.le_of_ble_eq_true rfl) dX8_dropIfEmpty_6 rfl ?_
  refine zx_istore_n C [(3, .int (v6)), (0, .ref (a0)), (1, .int (p0)), (2, .int (p1))] dX8_dropIfEmpty_9 rfl (by decide) rfl ?_
  refine zx_aload_n C dX8_dropIfEmpty_10 1 rfl ?_
  obtain ⟨k9, i10, hm⟩ := ckO_e hm
  obtain ⟨a11, h12, hm⟩ := osm_e hm
  refine zx_get (j := 0) C tC_8 k9 i10 ⟨by decide, Or.inl W_1_163⟩ dX8_dropIfEmpty_11 (.ref a11) (rf_s h12) ?_
  refine zx_iload_n C dX8_dropIfEmpty_14 0 rfl ?_
  refine zx_iconst (v := 0) C dX8_dropIfEmpty_15 (by decide) ?_
  obtain ⟨k13, i14, hm⟩ := ckO_e hm
  obtain ⟨v15, ρ16, h17, hm⟩ := cll_e hm
  refine zx_callV (σ := ρ7) C [.int (v6), .int (0)] tC_5 k13 i14 Y_X5_isZeroFrom W_5_37 W_5_38 W_5_39 (c_X5_isZeroFrom h17) (by decide) (by decide) rfl (Nat.le_of_ble_eq_true rfl) dX8_dropIfEmpty_16 rfl ?_
  refine zx_if_eq C 38 dX8_dropIfEmpty_19 (by decide) (fun c18 => ?_) (fun c18 => ?_)
  · replace hm := ip_e hm c18
    exact zx_lv [] [] rfl (j_X8_dropIfEmpty_38 C htab hin    hm)
  · replace hm := in_e hm c18
    refine zx_aload_n C dX8_dropIfEmpty_22 1 rfl ?_
    refine zx_iload_n C dX8_dropIfEmpty_23 2 rfl ?_
    refine zx_iload_n C dX8_dropIfEmpty_24 3 rfl ?_
    refine zx_lconst (v := 0) C dX8_dropIfEmpty_25 (by decide) ?_
    obtain ⟨k19, i20, hm⟩ := ckO_e hm
    obtain ⟨v21, ρ22, h23, hm⟩ := cll_e hm
    refine zx_callV (σ := ρ16) C [.int (p0), .int (p1), .long (0)] tC_8 k19 i20 Y_X8_setNodeWord W_2_152 W_2_154 Wp_6 (c_X8_setNodeWord h23) (by decide) (by decide) rfl (Nat.le_of_ble_eq_true rfl) dX8_dropIfEmpty_26 rfl ?_
    refine zx_aload_n C dX8_dropIfEmpty_29 1 rfl ?_
    obtain ⟨k24, i25, hm⟩ := ckO_e hm
    obtain ⟨a26, h27, hm⟩ := osm_e hm
    refine zx_get (j := 0) C tC_8 k24 i25 ⟨by decide, Or.inl W_1_163⟩ dX8_dropIfEmpty_30 (.ref a26) (rf_s h27) ?_
    refine zx_iload_n C dX8_dropIfEmpty_33 0 rfl ?_
    refine zx_iconst (v := 1) C dX8_dropIfEmpty_34 (by decide) ?_
    obtain ⟨k28, i29, hm⟩ := ckO_e hm
    obtain ⟨v30, ρ31, h32, hm⟩ := cll_e hm
    refine zx_callV (σ := ρ22) C [.int (v6), .int (1)] tC_5 k28 i29 Y_X5_release W_5_46 W_5_47 W_5_48 (c_X5_release h32) (by decide) (by decide) rfl (Nat.le_of_ble_eq_true rfl) dX8_dropIfEmpty_35 rfl ?_
    exact zx_lv [] [] rfl (j_X8_dropIfEmpty_38 C htab hin    hm)
abbrev cX8_countEntries : ByteArray := prog_10_method_42_code
def yX8_countEntries : MethodName := ⟨"SyncTree$Tree", "countEntries", "(I)I"⟩
theorem Y_X8_countEntries : tY yX8_countEntries cX8_countEntries 5 (some .int) 1 := ⟨W_5_98, W_1_4, ⟨by decide +kernel, by decide +kernel⟩, by decide +kernel⟩
theorem dX8_countEntries_0 : decode cX8_countEntries 0 = .ok (.iconst 0, 1) := by decide +kernel
theorem dX8_countEntries_1 : decode cX8_countEntries 1 = .ok (.istore_n 2, 1) := by decide +kernel
theorem dX8_countEntries_2 : decode cX8_countEntries 2 = .ok (.aload_n 0, 1) := by decide +kernel
theorem dX8_countEntries_3 : decode cX8_countEntries 3 = .ok (.iload_n 1, 1) := by decide +kernel
theorem dX8_countEntries_4 : decode cX8_countEntries 4 = .ok (.invokevirtual 169, 3) := by decide +kernel
theorem dX8_countEntries_7 : decode cX8_countEntries 7 = .ok (.istore_n 3, 1) := by decide +kernel
theorem dX8_countEntries_8 : decode cX8_countEntries 8 = .ok (.iconst 0, 1) := by decide +kernel
theorem dX8_countEntries_9 : decode cX8_countEntries 9 = .ok (.istore 4, 2) := by decide +kernel
theorem dX8_countEntries_11 : decode cX8_countEntries 11 = .ok (.iload 4, 2) := by decide +kernel
theorem dX8_countEntries_13 : decode cX8_countEntries 13 = .ok (.iload_n 3, 1) := by decide +kernel
theorem dX8_countEntries_14 : decode cX8_countEntries 14 = .ok (.if_icmp .ge 27, 3) := by decide +kernel
theorem dX8_countEntries_17 : decode cX8_countEntries 17 = .ok (.iload_n 2, 1) := by decide +kernel
theorem dX8_countEntries_18 : decode cX8_countEntries 18 = .ok (.aload_n 0, 1) := by decide +kernel
theorem dX8_countEntries_19 : decode cX8_countEntries 19 = .ok (.iload_n 1, 1) := by decide +kernel
theorem dX8_countEntries_20 : decode cX8_countEntries 20 = .ok (.iload 4, 2) := by decide +kernel
theorem dX8_countEntries_22 : decode cX8_countEntries 22 = .ok (.invokevirtual 172, 3) := by decide +kernel
theorem dX8_countEntries_25 : decode cX8_countEntries 25 = .ok (.ifCond .ne 7, 3) := by decide +kernel
theorem dX8_countEntries_28 : decode cX8_countEntries 28 = .ok (.iconst 0, 1) := by decide +kernel
theorem dX8_countEntries_29 : decode cX8_countEntries 29 = .ok (.goto 4, 3) := by decide +kernel
theorem dX8_countEntries_32 : decode cX8_countEntries 32 = .ok (.iconst 1, 1) := by decide +kernel
theorem dX8_countEntries_33 : decode cX8_countEntries 33 = .ok (.iadd, 1) := by decide +kernel
theorem dX8_countEntries_34 : decode cX8_countEntries 34 = .ok (.istore_n 2, 1) := by decide +kernel
theorem dX8_countEntries_35 : decode cX8_countEntries 35 = .ok (.iinc 4 1, 3) := by decide +kernel
theorem dX8_countEntries_38 : decode cX8_countEntries 38 = .ok (.goto (-27), 3) := by decide +kernel
theorem dX8_countEntries_41 : decode cX8_countEntries 41 = .ok (.iload_n 2, 1) := by decide +kernel
theorem dX8_countEntries_42 : decode cX8_countEntries 42 = .ok (.ireturn, 1) := by decide +kernel
def J_X8_countEntries_33 (b0 fu : Nat) (rc11 : Nat → Int32 → Int32 → Int32 → Int32 → tM → Option ((Int32) × tM)) (x0 : Nat) (x1 : Int32) (x3 : Int32) (x4 : Int32) (s0 : Int32) (s1 : Int32) (σ : tM) : Option ((Int32) × tM) := ltb (((s0) + (s1) : Int32)) (fun y13 => ltb ((x4) + Int32.ofInt 1) (fun y14 => rc11 (x0) (x1) (y13) (x3) (y14) (σ)))
def L_X8_countEntries_11 (b0 fu : Nat)  : Nat → Nat → Int32 → Int32 → Int32 → Int32 → tM → Option ((Int32) × tM)
  | 0, _, _, _, _, _, _ => none
  | n + 1, x0, x1, x2, x3, x4, σ => ltb (L_X8_countEntries_11 b0 fu  n) (fun rc11 => if (x3) ≤ (x4) then some (x2, σ) else ckO b0 (σ) (x0) 8 (cll (m_X8_nameLength b0 fu (x0) (x1) (x4) (σ)) (fun v9 ρ10 => if (v9) = (0) then J_X8_countEntries_33 b0 fu rc11  (x0) (x1) (x3) (x4) (x2) (0) (ρ10) else J_X8_countEntries_33 b0 fu rc11  (x0) (x1) (x3) (x4) (x2) (1) (ρ10))))
def m_X8_countEntries (b0 fu : Nat) (a0 : Nat) (p0 : Int32) (σ : tM) : Option ((Int32) × tM) := grw σ (ckO b0 (σ) (a0) 8 (cll (m_X8_entries b0 fu (a0) (p0) (σ)) (fun v3 ρ4 => L_X8_countEntries_11 b0 fu  (fu) (a0) (p0) (0) (v3) (0) (ρ4))))
set_option maxRecDepth 100000 in
set_option maxHeartbeats 1000000 in
theorem j_X8_countEntries_33 {p : Program} {l : Launch} {e : Env} {s : State} {m : MethodId} {args : Array Value} {below : List Frame} {meth : Method} {c : Code} {D : va_G} {aC : Nat → ClassId} {b0 fu : Nat} {σ0 τ : tM} {v : Int32} {rc11 : Nat → Int32 → Int32 → Int32 → Int32 → tM → Option ((Int32) × tM)} (C : tCx p l s m args meth c yX8_countEntries.cls cX8_countEntries 5 (some .int) D aC b0 σ0) (htab : ∀ x ∈ c.exceptionTable.toList, False) (hin : meth.name = yX8_countEntries.name) (hrc11 : ∀ (x0 : Nat) (x1 : Int32) (x2 : Int32) (x3 : Int32) (x4 : Int32) (ρ : tM), rc11 x0 x1 x2 x3 x4 ρ = some (v, τ) → tX p l e s m args below meth c 5 3 69 D aC b0 σ0 (.inl (some (.int v))) τ 11 [(0, .ref (x0)), (1, .int (x1)), (2, .int (x2)), (3, .int (x3)), (4, .int (x4))] [] ρ) {x0 : Nat} {x1 : Int32} {x3 : Int32} {x4 : Int32} {s0 : Int32} {s1 : Int32} {σ : tM} (hm : J_X8_countEntries_33 b0 fu rc11 x0 x1 x3 x4 s0 s1 σ = some (v, τ)) : tX p l e s m args below meth c 5 3 69 D aC b0 σ0 (.inl (some (.int v))) τ 33 [(0, .ref (x0)), (1, .int (x1)), (3, .int (x3)), (4, .int (x4))] [.int (s1), .int (s0)] σ := by
  unfold J_X8_countEntries_33 at hm
  refine zx_iadd C dX8_countEntries_33 ?_
  refine zx_topi (fun y13 hy13 => ?_)
  replace hm := ltb_e hm hy13
  refine zx_istore_n C [(2, .int (y13)), (0, .ref (x0)), (1, .int (x1)), (3, .int (x3)), (4, .int (x4))] dX8_countEntries_34 rfl (by decide) rfl ?_
  obtain ⟨y14, hy14⟩ : ∃ z : Int32, z = (x4) + Int32.ofInt 1 := ⟨_, rfl⟩
  replace hm := ltb_e hm hy14
  refine zx_iinc C [(4, .int (y14)), (2, .int (y13)), (0, .ref (x0)), (1, .int (x1)), (3, .int (x3))] dX8_countEntries_35 4 rfl hy14.symm (by decide) rfl ?_
  refine zx_goto C 11 dX8_countEntries_38 (by decide) ?_
  exact zx_lv [2, 3, 1, 4, 0] [(0, .ref (x0)), (1, .int (x1)), (2, .int (y13)), (3, .int (x3)), (4, .int (y14))] rfl (hrc11 _ _ _ _ _ _ hm)
set_option maxRecDepth 100000 in
set_option maxHeartbeats 1000000 in
theorem l_X8_countEntries_11 {p : Program} {l : Launch} {e : Env} {s : State} {m : MethodId} {args : Array Value} {below : List Frame} {meth : Method} {c : Code} {D : va_G} {aC : Nat → ClassId} {b0 fu : Nat} {σ0 τ : tM} {v : Int32}  (C : tCx p l s m args meth c yX8_countEntries.cls cX8_countEntries 5 (some .int) D aC b0 σ0) (htab : ∀ x ∈ c.exceptionTable.toList, False) (hin : meth.name = yX8_countEntries.name)  : ∀ (n : Nat) (x0 : Nat) (x1 : Int32) (x2 : Int32) (x3 : Int32) (x4 : Int32) (σ : tM), L_X8_countEntries_11 b0 fu  n x0 x1 x2 x3 x4 σ = some (v, τ) → tX p l e s m args below meth c 5 3 69 D aC b0 σ0 (.inl (some (.int v))) τ 11 [(0, .ref (x0)), (1, .int (x1)), (2, .int (x2)), (3, .int (x3)), (4, .int (x4))] [] σ := by
  intro n
  induction n with
  | zero => intro x0 x1 x2 x3 x4 σ hm; unfold L_X8_countEntries_11 at hm; cases hm
  | succ n ih =>
    intro x0 x1 x2 x3 x4 σ hm
    unfold L_X8_countEntries_11 at hm
    obtain ⟨rc11, hrc⟩ : ∃ z, z = L_X8_countEntries_11 b0 fu  n := ⟨_, rfl⟩
    replace hm := ltb_e hm hrc
    rw [← hrc] at ih
    have hrc11 := ih
    clear ih hrc
    refine zx_iload C dX8_countEntries_11 4 rfl ?_
    refine zx_iload_n C dX8_countEntries_13 3 rfl ?_
    refine zx_icmp_ge C 41 dX8_countEntries_14 (by decide) (fun c6 => ?_) (fun c6 => ?_)
    · replace hm := ip_e hm c6
      refine zx_iload_n C dX8_countEntries_41 2 rfl ?_
      obtain ⟨rfl, rfl⟩ := ret_e hm
      exact zx_iret C rfl rfl rfl dX8_countEntries_42
    · replace hm := in_e hm c6
      refine zx_iload_n C dX8_countEntries_17 2 rfl ?_
      refine zx_aload_n C dX8_countEntries_18 0 rfl ?_
      refine zx_iload_n C dX8_countEntries_19 1 rfl ?_
      refine zx_iload C dX8_countEntries_20 4 rfl ?_
      obtain ⟨k7, i8, hm⟩ := ckO_e hm
      obtain ⟨v9, ρ10, h11, hm⟩ := cll_e hm
      refine zx_callV (σ := σ) C [.int (x1), .int (x4)] tC_8 k7 i8 Y_X8_nameLength W_4_166 W_4_167 W_4_168 (c_X8_nameLength h11) (by decide) (by decide) rfl (Nat.le_of_ble_eq_true rfl) dX8_countEntries_22 rfl ?_
      refine zx_if_ne C 32 dX8_countEntries_25 (by decide) (fun c12 => ?_) (fun c12 => ?_)
      · replace hm := in_e hm c12
        refine zx_iconst (v := 1) C dX8_countEntries_32 (by decide) ?_
        exact zx_lv [0, 1, 3, 4] [(0, .ref (x0)), (1, .int (x1)), (3, .int (x3)), (4, .int (x4))] rfl (j_X8_countEntries_33 C htab hin hrc11   hm)
      · replace hm := ip_e hm c12
        refine zx_iconst (v := 0) C dX8_countEntries_28 (by decide) ?_
        refine zx_goto C 33 dX8_countEntries_29 (by decide) ?_
        exact zx_lv [0, 1, 3, 4] [(0, .ref (x0)), (1, .int (x1)), (3, .int (x3)), (4, .int (x4))] rfl (j_X8_countEntries_33 C htab hin hrc11   hm)
set_option maxRecDepth 100000 in
set_option maxHeartbeats 1000000 in
theorem c_X8_countEntries {l : Launch} {D : va_G} {aC : Nat → ClassId} {b0 fu : Nat} {a0 : Nat} {p0 : Int32} {σ τ : tM} {v : Int32} (hm : m_X8_countEntries b0 fu a0 p0 σ = some (v, τ)) : tMt l D aC b0 yX8_countEntries (Cond.code yX8_countEntries cX8_countEntries 5 (some .int)) 3 69 [.ref (a0), .int (p0)] σ (.inl (some (.int v))) τ := by
  unfold m_X8_countEntries at hm
  obtain ⟨hg, hm⟩ := grw_e hm
  refine tMt_of (n := 0) rfl (Nat.le_of_ble_eq_true rfl) hg ?_
  intro p e s m below meth c C htab hin
  refine zx_lv [0, 1] [(0, .ref (a0)), (1, .int (p0))] rfl ?_
  refine zx_iconst (v := 0) C dX8_countEntries_0 (by decide) ?_
  refine zx_istore_n C [(2, .int (0)), (0, .ref (a0)), (1, .int (p0))] dX8_countEntries_1 rfl (by decide) rfl ?_
  refine zx_aload_n C dX8_countEntries_2 1 rfl ?_
  refine zx_iload_n C dX8_countEntries_3 2 rfl ?_
  obtain ⟨k1, i2, hm⟩ := ckO_e hm
  obtain ⟨v3, ρ4, h5, hm⟩ := cll_e hm
  refine zx_callV (σ := σ) C [.int (p0)] tC_8 k1 i2 Y_X8_entries W_4_104 W_4_105 W_4_106 (c_X8_entries h5) (by decide) (by decide) rfl (Nat.le_of_ble_eq_true rfl) dX8_countEntries_4 rfl ?_
  refine zx_istore_n C [(3, .int (v3)), (2, .int (0)), (0, .ref (a0)), (1, .int (p0))] dX8_countEntries_7 rfl (by decide) rfl ?_
  refine zx_iconst (v := 0) C dX8_countEntries_8 (by decide) ?_
  refine zx_istore C [(4, .int (0)), (3, .int (v3)), (2, .int (0)), (0, .ref (a0)), (1, .int (p0))] dX8_countEntries_9 (by decide) rfl ?_
  exact zx_lv [3, 4, 2, 1, 0] [(0, .ref (a0)), (1, .int (p0)), (2, .int (0)), (3, .int (v3)), (4, .int (0))] rfl (l_X8_countEntries_11 C htab hin  _ _ _ _ _ _ _ hm)
abbrev cX8_findLast : ByteArray := prog_10_method_46_code
def yX8_findLast : MethodName := ⟨"SyncTree$Tree", "findLast", "(ILSyncTree$PathText;)I"⟩
theorem Y_X8_findLast : tY yX8_findLast cX8_findLast 3 (some .int) 2 := ⟨W_4_148, W_1_4, ⟨by decide +kernel, by decide +kernel⟩, by decide +kernel⟩
theorem dX8_findLast_0 : decode cX8_findLast 0 = .ok (.aload_n 0, 1) := by decide +kernel
theorem dX8_findLast_1 : decode cX8_findLast 1 = .ok (.iload_n 1, 1) := by decide +kernel
theorem dX8_findLast_2 : decode cX8_findLast 2 = .ok (.aload_n 2, 1) := by decide +kernel
theorem dX8_findLast_3 : decode cX8_findLast 3 = .ok (.getfield 76, 3) := by decide +kernel
theorem dX8_findLast_6 : decode cX8_findLast 6 = .ok (.aload_n 2, 1) := by decide +kernel
theorem dX8_findLast_7 : decode cX8_findLast 7 = .ok (.getfield 175, 3) := by decide +kernel
theorem dX8_findLast_10 : decode cX8_findLast 10 = .ok (.aload_n 2, 1) := by decide +kernel
theorem dX8_findLast_11 : decode cX8_findLast 11 = .ok (.getfield 178, 3) := by decide +kernel
theorem dX8_findLast_14 : decode cX8_findLast 14 = .ok (.invokevirtual 181, 3) := by decide +kernel
theorem dX8_findLast_17 : decode cX8_findLast 17 = .ok (.ireturn, 1) := by decide +kernel
def m_X8_findLast (b0 fu : Nat) (a0 : Nat) (p0 : Int32) (p1 : Nat) (σ : tM) : Option ((Int32) × tM) := grw σ (ckO b0 (σ) (p1) 3 (osm (tA (σ) (p1) 0) (fun a3 => ckO b0 (σ) (a0) 8 (cll (m_X8_find b0 fu (a0) (p0) (a3) (tI (σ) (p1) 2) (tI (σ) (p1) 3) (σ)) (fun v7 ρ8 => some (v7, ρ8))))))
set_option maxRecDepth 100000 in
set_option maxHeartbeats 1000000 in
theorem c_X8_findLast {l : Launch} {D : va_G} {aC : Nat → ClassId} {b0 fu : Nat} {a0 : Nat} {p0 : Int32} {p1 : Nat} {σ τ : tM} {v : Int32} (hm : m_X8_findLast b0 fu a0 p0 p1 σ = some (v, τ)) : tMt l D aC b0 yX8_findLast (Cond.code yX8_findLast cX8_findLast 3 (some .int)) 3 76 [.ref (a0), .int (p0), .ref (p1)] σ (.inl (some (.int v))) τ := by
  unfold m_X8_findLast at hm
  obtain ⟨hg, hm⟩ := grw_e hm
  refine tMt_of (n := 0) rfl (Nat.le_of_ble_eq_true rfl) hg ?_
  intro p e s m below meth c C htab hin
  refine zx_lv [0, 1, 2] [(0, .ref (a0)), (1, .int (p0)), (2, .ref (p1))] rfl ?_
  refine zx_aload_n C dX8_findLast_0 0 rfl ?_
  refine zx_iload_n C dX8_findLast_1 1 rfl ?_
  refine zx_aload_n C dX8_findLast_2 2 rfl ?_
  obtain ⟨k1, i2, hm⟩ := ckO_e hm
  obtain ⟨a3, h4, hm⟩ := osm_e hm
  refine zx_get (j := 0) C tC_3 k1 i2 ⟨by decide, Or.inr ⟨_, W_2_58⟩⟩ dX8_findLast_3 (.ref a3) (rf_s h4) ?_
  refine zx_aload_n C dX8_findLast_6 2 rfl ?_
  refine zx_get (j := 2) C tC_3 k1 i2 ⟨by decide, Or.inr ⟨_, W_2_65⟩⟩ dX8_findLast_7 (.int (tI (σ) (p1) 2)) rfl ?_
  refine zx_aload_n C dX8_findLast_10 2 rfl ?_
  refine zx_get (j := 3) C tC_3 k1 i2 ⟨by decide, Or.inr ⟨_, W_2_68⟩⟩ dX8_findLast_11 (.int (tI (σ) (p1) 3)) rfl ?_
  obtain ⟨k5, i6, hm⟩ := ckO_e hm
  obtain ⟨v7, ρ8, h9, hm⟩ := cll_e hm
  refine zx_callV (σ := σ) C [.int (p0), .ref (a3), .int (tI (σ) (p1) 2), .int (tI (σ) (p1) 3)] tC_8 k5 i6 Y_X8_find W_4_149 W_4_101 W_4_102 (c_X8_find h9) (by decide) (by decide) rfl (Nat.le_of_ble_eq_true rfl) dX8_findLast_14 rfl ?_
  obtain ⟨rfl, rfl⟩ := ret_e hm
  exact zx_iret C rfl rfl rfl dX8_findLast_17
abbrev cX8_addEntry : ByteArray := prog_10_method_50_code
def yX8_addEntry : MethodName := ⟨"SyncTree$Tree", "addEntry", "(ILSyncTree$PathText;I)V"⟩
theorem Y_X8_addEntry : tY yX8_addEntry cX8_addEntry 5 none 3 := ⟨W_4_198, W_1_4, ⟨by decide +kernel, by decide +kernel⟩, by decide +kernel⟩
theorem dX8_addEntry_0 : decode cX8_addEntry 0 = .ok (.aload_n 0, 1) := by decide +kernel
theorem dX8_addEntry_1 : decode cX8_addEntry 1 = .ok (.iload_n 1, 1) := by decide +kernel
theorem dX8_addEntry_2 : decode cX8_addEntry 2 = .ok (.invokevirtual 185, 3) := by decide +kernel
theorem dX8_addEntry_5 : decode cX8_addEntry 5 = .ok (.istore 4, 2) := by decide +kernel
theorem dX8_addEntry_7 : decode cX8_addEntry 7 = .ok (.iload 4, 2) := by decide +kernel
theorem dX8_addEntry_9 : decode cX8_addEntry 9 = .ok (.aload_n 0, 1) := by decide +kernel
theorem dX8_addEntry_10 : decode cX8_addEntry 10 = .ok (.iload_n 1, 1) := by decide +kernel
theorem dX8_addEntry_11 : decode cX8_addEntry 11 = .ok (.invokevirtual 169, 3) := by decide +kernel
theorem dX8_addEntry_14 : decode cX8_addEntry 14 = .ok (.if_icmp .lt 27, 3) := by decide +kernel
theorem dX8_addEntry_17 : decode cX8_addEntry 17 = .ok (.aload_n 0, 1) := by decide +kernel
theorem dX8_addEntry_18 : decode cX8_addEntry 18 = .ok (.iload_n 1, 1) := by decide +kernel
theorem dX8_addEntry_19 : decode cX8_addEntry 19 = .ok (.iload 4, 2) := by decide +kernel
theorem dX8_addEntry_21 : decode cX8_addEntry 21 = .ok (.bipush 8, 2) := by decide +kernel
theorem dX8_addEntry_23 : decode cX8_addEntry 23 = .ok (.idiv, 1) := by decide +kernel
theorem dX8_addEntry_24 : decode cX8_addEntry 24 = .ok (.invokevirtual 195, 3) := by decide +kernel
theorem dX8_addEntry_27 : decode cX8_addEntry 27 = .ok (.aload_n 0, 1) := by decide +kernel
theorem dX8_addEntry_28 : decode cX8_addEntry 28 = .ok (.iload_n 1, 1) := by decide +kernel
theorem dX8_addEntry_29 : decode cX8_addEntry 29 = .ok (.aload_n 0, 1) := by decide +kernel
theorem dX8_addEntry_30 : decode cX8_addEntry 30 = .ok (.iload_n 1, 1) := by decide +kernel
theorem dX8_addEntry_31 : decode cX8_addEntry 31 = .ok (.invokevirtual 53, 3) := by decide +kernel
theorem dX8_addEntry_34 : decode cX8_addEntry 34 = .ok (.sipush 256, 3) := by decide +kernel
theorem dX8_addEntry_37 : decode cX8_addEntry 37 = .ok (.iadd, 1) := by decide +kernel
theorem dX8_addEntry_38 : decode cX8_addEntry 38 = .ok (.invokevirtual 83, 3) := by decide +kernel
theorem dX8_addEntry_41 : decode cX8_addEntry 41 = .ok (.aload_n 0, 1) := by decide +kernel
theorem dX8_addEntry_42 : decode cX8_addEntry 42 = .ok (.iload_n 1, 1) := by decide +kernel
theorem dX8_addEntry_43 : decode cX8_addEntry 43 = .ok (.iload 4, 2) := by decide +kernel
theorem dX8_addEntry_45 : decode cX8_addEntry 45 = .ok (.aload_n 2, 1) := by decide +kernel
theorem dX8_addEntry_46 : decode cX8_addEntry 46 = .ok (.iload_n 3, 1) := by decide +kernel
theorem dX8_addEntry_47 : decode cX8_addEntry 47 = .ok (.invokevirtual 197, 3) := by decide +kernel
theorem dX8_addEntry_50 : decode cX8_addEntry 50 = .ok (.return_, 1) := by decide +kernel
def J_X8_addEntry_41 (b0 fu : Nat)  (x0 : Nat) (x1 : Int32) (x2 : Nat) (x3 : Int32) (x4 : Int32) (σ : tM) : Option ((Unit) × tM) := ckO b0 (σ) (x0) 8 (cll (m_X8_setEntry b0 fu (x0) (x1) (x4) (x2) (x3) (σ)) (fun v14 ρ15 => some ((), ρ15)))
def m_X8_addEntry (b0 fu : Nat) (a0 : Nat) (p0 : Int32) (p1 : Nat) (p2 : Int32) (σ : tM) : Option ((Unit) × tM) := grw σ (ckO b0 (σ) (a0) 8 (cll (m_X8_placeForEntry b0 fu (a0) (p0) (σ)) (fun v3 ρ4 => ckO b0 (ρ4) (a0) 8 (cll (m_X8_entries b0 fu (a0) (p0) (ρ4)) (fun v8 ρ9 => if (v3) < (v8) then J_X8_addEntry_41 b0 fu   (a0) (p0) (p1) (p2) (v3) (ρ9) else ckO b0 (ρ9) (a0) 8 (cll (m_X8_obtain b0 fu (a0) (p0) ((v3) / (8)) (ρ9)) (fun v19 ρ20 => ckO b0 (ρ20) (a0) 8 (cll (m_X8_size b0 fu (a0) (p0) (ρ20)) (fun v24 ρ25 => ckO b0 (ρ25) (a0) 8 (cll (m_X8_setSize b0 fu (a0) (p0) ((v24) + (256)) (ρ25)) (fun v29 ρ30 => J_X8_addEntry_41 b0 fu   (a0) (p0) (p1) (p2) (v3) (ρ30))))))))))))
set_option maxRecDepth 100000 in
set_option maxHeartbeats 1000000 in
theorem j_X8_addEntry_41 {p : Program} {l : Launch} {e : Env} {s : State} {m : MethodId} {args : Array Value} {below : List Frame} {meth : Method} {c : Code} {D : va_G} {aC : Nat → ClassId} {b0 fu : Nat} {σ0 τ : tM} {v : Unit}  (C : tCx p l s m args meth c yX8_addEntry.cls cX8_addEntry 5 none D aC b0 σ0) (htab : ∀ x ∈ c.exceptionTable.toList, False) (hin : meth.name = yX8_addEntry.name)  {x0 : Nat} {x1 : Int32} {x2 : Nat} {x3 : Int32} {x4 : Int32} {σ : tM} (hm : J_X8_addEntry_41 b0 fu  x0 x1 x2 x3 x4 σ = some (v, τ)) : tX p l e s m args below meth c 5 4 96 D aC b0 σ0 (.inl none) τ 41 [(0, .ref (x0)), (1, .int (x1)), (2, .ref (x2)), (3, .int (x3)), (4, .int (x4))] [] σ := by
  unfold J_X8_addEntry_41 at hm
  refine zx_aload_n C dX8_addEntry_41 0 rfl ?_
  refine zx_iload_n C dX8_addEntry_42 1 rfl ?_
  refine zx_iload C dX8_addEntry_43 4 rfl ?_
  refine zx_aload_n C dX8_addEntry_45 2 rfl ?_
  refine zx_iload_n C dX8_addEntry_46 3 rfl ?_
  obtain ⟨k12, i13, hm⟩ := ckO_e hm
  obtain ⟨v14, ρ15, h16, hm⟩ := cll_e hm
  refine zx_callV (σ := σ) C [.int (x1), .int (x4), .ref (x2), .int (x3)] tC_8 k12 i13 Y_X8_setEntry W_4_225 W_4_226 W_4_227 (c_X8_setEntry h16) (by decide) (by decide) rfl (Nat.le_of_ble_eq_true rfl) dX8_addEntry_47 rfl ?_
  obtain ⟨rfl, rfl⟩ := ret_e hm
  exact zx_vret C rfl rfl rfl dX8_addEntry_50
set_option maxRecDepth 100000 in
set_option maxHeartbeats 1000000 in
theorem c_X8_addEntry {l : Launch} {D : va_G} {aC : Nat → ClassId} {b0 fu : Nat} {a0 : Nat} {p0 : Int32} {p1 : Nat} {p2 : Int32} {σ τ : tM} {v : Unit} (hm : m_X8_addEntry b0 fu a0 p0 p1 p2 σ = some (v, τ)) : tMt l D aC b0 yX8_addEntry (Cond.code yX8_addEntry cX8_addEntry 5 none) 4 96 [.ref (a0), .int (p0), .ref (p1), .int (p2)] σ (.inl none) τ := by
  unfold m_X8_addEntry at hm
  obtain ⟨hg, hm⟩ := grw_e hm
  refine tMt_of (n := 0) rfl (Nat.le_of_ble_eq_true rfl) hg ?_
  intro p e s m below meth c C htab hin
  refine zx_lv [0, 1, 2, 3] [(0, .ref (a0)), (1, .int (p0)), (2, .ref (p1)), (3, .int (p2))] rfl ?_
  refine zx_aload_n C dX8_addEntry_0 0 rfl ?_
  refine zx_iload_n C dX8_addEntry_1 1 rfl ?_
  obtain ⟨k1, i2, hm⟩ := ckO_e hm
  obtain ⟨v3, ρ4, h5, hm⟩ := cll_e hm
  refine zx_callV (σ := σ) C [.int (p0)] tC_8 k1 i2 Y_X8_placeForEntry W_4_162 W_4_164 Wp_28 (c_X8_placeForEntry h5) (by decide) (by decide) rfl (Nat.le_of_ble_eq_true rfl) dX8_addEntry_2 rfl ?_
  refine zx_istore C [(4, .int (v3)), (0, .ref (a0)), (1, .int (p0)), (2, .ref (p1)), (3, .int (p2))] dX8_addEntry_5 (by decide) rfl ?_
  refine zx_iload C dX8_addEntry_7 0 rfl ?_
  refine zx_aload_n C dX8_addEntry_9 1 rfl ?_
  refine zx_iload_n C dX8_addEntry_10 2 rfl ?_
  obtain ⟨k6, i7, hm⟩ := ckO_e hm
  obtain ⟨v8, ρ9, h10, hm⟩ := cll_e hm
  refine zx_callV (σ := ρ4) C [.int (p0)] tC_8 k6 i7 Y_X8_entries W_4_104 W_4_105 W_4_106 (c_X8_entries h10) (by decide) (by decide) rfl (Nat.le_of_ble_eq_true rfl) dX8_addEntry_11 rfl ?_
  refine zx_icmp_lt C 41 dX8_addEntry_14 (by decide) (fun c11 => ?_) (fun c11 => ?_)
  · replace hm := ip_e hm c11
    exact zx_lv [1, 2, 3, 4, 0] [(0, .ref (a0)), (1, .int (p0)), (2, .ref (p1)), (3, .int (p2)), (4, .int (v3))] rfl (j_X8_addEntry_41 C htab hin    hm)
  · replace hm := in_e hm c11
    refine zx_aload_n C dX8_addEntry_17 1 rfl ?_
    refine zx_iload_n C dX8_addEntry_18 2 rfl ?_
    refine zx_iload C dX8_addEntry_19 0 rfl ?_
    refine zx_bipush (v := 8) C dX8_addEntry_21 (by decide) ?_
    refine zx_idiv C dX8_addEntry_23 (by decide) ?_
    obtain ⟨k17, i18, hm⟩ := ckO_e hm
    obtain ⟨v19, ρ20, h21, hm⟩ := cll_e hm
    refine zx_callV (σ := ρ9) C [.int (p0), .int ((v3) / (8))] tC_8 k17 i18 Y_X8_obtain W_4_199 W_4_200 W_4_201 (c_X8_obtain h21) (by decide) (by decide) rfl (Nat.le_of_ble_eq_true rfl) dX8_addEntry_24 rfl ?_
    refine zx_aload_n C dX8_addEntry_27 1 rfl ?_
    refine zx_iload_n C dX8_addEntry_28 2 rfl ?_
    refine zx_aload_n C dX8_addEntry_29 1 rfl ?_
    refine zx_iload_n C dX8_addEntry_30 2 rfl ?_
    obtain ⟨k22, i23, hm⟩ := ckO_e hm
    obtain ⟨v24, ρ25, h26, hm⟩ := cll_e hm
    refine zx_callV (σ := ρ20) C [.int (p0)] tC_8 k22 i23 Y_X8_size W_4_224 W_4_133 W_4_134 (c_X8_size h26) (by decide) (by decide) rfl (Nat.le_of_ble_eq_true rfl) dX8_addEntry_31 rfl ?_
    refine zx_sipush (v := 256) C dX8_addEntry_34 (by decide) ?_
    refine zx_iadd C dX8_addEntry_37 ?_
    obtain ⟨k27, i28, hm⟩ := ckO_e hm
    obtain ⟨v29, ρ30, h31, hm⟩ := cll_e hm
    refine zx_callV (σ := ρ25) C [.int (p0), .int ((v24) + (256))] tC_8 k27 i28 Y_X8_setSize W_4_186 W_4_188 Wp_29 (c_X8_setSize h31) (by decide) (by decide) rfl (Nat.le_of_ble_eq_true rfl) dX8_addEntry_38 rfl ?_
    exact zx_lv [1, 2, 3, 4, 0] [(0, .ref (a0)), (1, .int (p0)), (2, .ref (p1)), (3, .int (p2)), (4, .int (v3))] rfl (j_X8_addEntry_41 C htab hin    hm)
abbrev cX9_walk : ByteArray := prog_11_method_4_code
def yX9_walk : MethodName := ⟨"SyncTree$Walker", "walk", "(LSyncTree$PathText;IZ)I"⟩
theorem Y_X9_walk : tY yX9_walk cX9_walk 9 (some .int) 3 := ⟨W_4_76, W_1_7, ⟨by decide +kernel, by decide +kernel⟩, by decide +kernel⟩
theorem dX9_walk_0 : decode cX9_walk 0 = .ok (.aload_n 0, 1) := by decide +kernel
theorem dX9_walk_1 : decode cX9_walk 1 = .ok (.iconst 0, 1) := by decide +kernel
theorem dX9_walk_2 : decode cX9_walk 2 = .ok (.iload_n 2, 1) := by decide +kernel
theorem dX9_walk_3 : decode cX9_walk 3 = .ok (.bipush 120, 2) := by decide +kernel
theorem dX9_walk_5 : decode cX9_walk 5 = .ok (.invokestatic 42, 3) := by decide +kernel
theorem dX9_walk_8 : decode cX9_walk 8 = .ok (.invokestatic 48, 3) := by decide +kernel
theorem dX9_walk_11 : decode cX9_walk 11 = .ok (.putfield 51, 3) := by decide +kernel
theorem dX9_walk_14 : decode cX9_walk 14 = .ok (.aload_n 1, 1) := by decide +kernel
theorem dX9_walk_15 : decode cX9_walk 15 = .ok (.getfield 54, 3) := by decide +kernel
theorem dX9_walk_18 : decode cX9_walk 18 = .ok (.iconst 0, 1) := by decide +kernel
theorem dX9_walk_19 : decode cX9_walk 19 = .ok (.aload_n 0, 1) := by decide +kernel
theorem dX9_walk_20 : decode cX9_walk 20 = .ok (.getfield 11, 3) := by decide +kernel
theorem dX9_walk_23 : decode cX9_walk 23 = .ok (.iconst 0, 1) := by decide +kernel
theorem dX9_walk_24 : decode cX9_walk 24 = .ok (.aload_n 0, 1) := by decide +kernel
theorem dX9_walk_25 : decode cX9_walk 25 = .ok (.getfield 51, 3) := by decide +kernel
theorem dX9_walk_28 : decode cX9_walk 28 = .ok (.invokestatic 57, 3) := by decide +kernel
theorem dX9_walk_31 : decode cX9_walk 31 = .ok (.aload_n 0, 1) := by decide +kernel
theorem dX9_walk_32 : decode cX9_walk 32 = .ok (.iconst 0, 1) := by decide +kernel
theorem dX9_walk_33 : decode cX9_walk 33 = .ok (.putfield 63, 3) := by decide +kernel
theorem dX9_walk_36 : decode cX9_walk 36 = .ok (.aload_n 0, 1) := by decide +kernel
theorem dX9_walk_37 : decode cX9_walk 37 = .ok (.iconst 0, 1) := by decide +kernel
theorem dX9_walk_38 : decode cX9_walk 38 = .ok (.putfield 66, 3) := by decide +kernel
theorem dX9_walk_41 : decode cX9_walk 41 = .ok (.iconst 0, 1) := by decide +kernel
theorem dX9_walk_42 : decode cX9_walk 42 = .ok (.istore 4, 2) := by decide +kernel
theorem dX9_walk_44 : decode cX9_walk 44 = .ok (.iconst 0, 1) := by decide +kernel
theorem dX9_walk_45 : decode cX9_walk 45 = .ok (.istore 5, 2) := by decide +kernel
theorem dX9_walk_47 : decode cX9_walk 47 = .ok (.iload 5, 2) := by decide +kernel
theorem dX9_walk_49 : decode cX9_walk 49 = .ok (.sipush 2000, 3) := by decide +kernel
theorem dX9_walk_52 : decode cX9_walk 52 = .ok (.if_icmp .ge 155, 3) := by decide +kernel
theorem dX9_walk_55 : decode cX9_walk 55 = .ok (.aload_n 0, 1) := by decide +kernel
theorem dX9_walk_56 : decode cX9_walk 56 = .ok (.aload_n 0, 1) := by decide +kernel
theorem dX9_walk_57 : decode cX9_walk 57 = .ok (.aload_n 0, 1) := by decide +kernel
theorem dX9_walk_58 : decode cX9_walk 58 = .ok (.getfield 63, 3) := by decide +kernel
theorem dX9_walk_61 : decode cX9_walk 61 = .ok (.invokevirtual 69, 3) := by decide +kernel
theorem dX9_walk_64 : decode cX9_walk 64 = .ok (.putfield 63, 3) := by decide +kernel
theorem dX9_walk_67 : decode cX9_walk 67 = .ok (.aload_n 0, 1) := by decide +kernel
theorem dX9_walk_68 : decode cX9_walk 68 = .ok (.getfield 63, 3) := by decide +kernel
theorem dX9_walk_71 : decode cX9_walk 71 = .ok (.aload_n 0, 1) := by decide +kernel
theorem dX9_walk_72 : decode cX9_walk 72 = .ok (.getfield 51, 3) := by decide +kernel
theorem dX9_walk_75 : decode cX9_walk 75 = .ok (.if_icmp .lt 6, 3) := by decide +kernel
theorem dX9_walk_78 : decode cX9_walk 78 = .ok (.iload 4, 2) := by decide +kernel
theorem dX9_walk_80 : decode cX9_walk 80 = .ok (.ireturn, 1) := by decide +kernel
theorem dX9_walk_81 : decode cX9_walk 81 = .ok (.aload_n 0, 1) := by decide +kernel
theorem dX9_walk_82 : decode cX9_walk 82 = .ok (.getfield 63, 3) := by decide +kernel
theorem dX9_walk_85 : decode cX9_walk 85 = .ok (.istore 6, 2) := by decide +kernel
theorem dX9_walk_87 : decode cX9_walk 87 = .ok (.aload_n 0, 1) := by decide +kernel
theorem dX9_walk_88 : decode cX9_walk 88 = .ok (.aload_n 0, 1) := by decide +kernel
theorem dX9_walk_89 : decode cX9_walk 89 = .ok (.aload_n 0, 1) := by decide +kernel
theorem dX9_walk_90 : decode cX9_walk 90 = .ok (.getfield 63, 3) := by decide +kernel
theorem dX9_walk_93 : decode cX9_walk 93 = .ok (.invokevirtual 72, 3) := by decide +kernel
theorem dX9_walk_96 : decode cX9_walk 96 = .ok (.putfield 63, 3) := by decide +kernel
theorem dX9_walk_99 : decode cX9_walk 99 = .ok (.aload_n 0, 1) := by decide +kernel
theorem dX9_walk_100 : decode cX9_walk 100 = .ok (.iload 4, 2) := by decide +kernel
theorem dX9_walk_102 : decode cX9_walk 102 = .ok (.iload 6, 2) := by decide +kernel
theorem dX9_walk_104 : decode cX9_walk 104 = .ok (.aload_n 0, 1) := by decide +kernel
theorem dX9_walk_105 : decode cX9_walk 105 = .ok (.getfield 63, 3) := by decide +kernel
theorem dX9_walk_108 : decode cX9_walk 108 = .ok (.iload 6, 2) := by decide +kernel
theorem dX9_walk_110 : decode cX9_walk 110 = .ok (.isub, 1) := by decide +kernel
theorem dX9_walk_111 : decode cX9_walk 111 = .ok (.invokevirtual 75, 3) := by decide +kernel
theorem dX9_walk_114 : decode cX9_walk 114 = .ok (.istore 7, 2) := by decide +kernel
theorem dX9_walk_116 : decode cX9_walk 116 = .ok (.iload 7, 2) := by decide +kernel
theorem dX9_walk_118 : decode cX9_walk 118 = .ok (.ifCond .ge 6, 3) := by decide +kernel
theorem dX9_walk_121 : decode cX9_walk 121 = .ok (.iload 7, 2) := by decide +kernel
theorem dX9_walk_123 : decode cX9_walk 123 = .ok (.ireturn, 1) := by decide +kernel
theorem dX9_walk_124 : decode cX9_walk 124 = .ok (.aload_n 0, 1) := by decide +kernel
theorem dX9_walk_125 : decode cX9_walk 125 = .ok (.aload_n 0, 1) := by decide +kernel
theorem dX9_walk_126 : decode cX9_walk 126 = .ok (.getfield 63, 3) := by decide +kernel
theorem dX9_walk_129 : decode cX9_walk 129 = .ok (.invokevirtual 69, 3) := by decide +kernel
theorem dX9_walk_132 : decode cX9_walk 132 = .ok (.aload_n 0, 1) := by decide +kernel
theorem dX9_walk_133 : decode cX9_walk 133 = .ok (.getfield 51, 3) := by decide +kernel
theorem dX9_walk_136 : decode cX9_walk 136 = .ok (.if_icmp .lt 7, 3) := by decide +kernel
theorem dX9_walk_139 : decode cX9_walk 139 = .ok (.iconst 1, 1) := by decide +kernel
theorem dX9_walk_140 : decode cX9_walk 140 = .ok (.goto 4, 3) := by decide +kernel
theorem dX9_walk_143 : decode cX9_walk 143 = .ok (.iconst 0, 1) := by decide +kernel
theorem dX9_walk_144 : decode cX9_walk 144 = .ok (.istore 8, 2) := by decide +kernel
theorem dX9_walk_146 : decode cX9_walk 146 = .ok (.aload_n 0, 1) := by decide +kernel
theorem dX9_walk_147 : decode cX9_walk 147 = .ok (.getfield 15, 3) := by decide +kernel
theorem dX9_walk_150 : decode cX9_walk 150 = .ok (.iload 7, 2) := by decide +kernel
theorem dX9_walk_152 : decode cX9_walk 152 = .ok (.invokevirtual 36, 3) := by decide +kernel
theorem dX9_walk_155 : decode cX9_walk 155 = .ok (.iconst 3, 1) := by decide +kernel
theorem dX9_walk_156 : decode cX9_walk 156 = .ok (.if_icmp .ne 12, 3) := by decide +kernel
theorem dX9_walk_159 : decode cX9_walk 159 = .ok (.iload 8, 2) := by decide +kernel
theorem dX9_walk_161 : decode cX9_walk 161 = .ok (.ifCond .eq 14, 3) := by decide +kernel
theorem dX9_walk_164 : decode cX9_walk 164 = .ok (.iload_n 3, 1) := by decide +kernel
theorem dX9_walk_165 : decode cX9_walk 165 = .ok (.ifCond .ne 10, 3) := by decide +kernel
theorem dX9_walk_168 : decode cX9_walk 168 = .ok (.iload 7, 2) := by decide +kernel
theorem dX9_walk_170 : decode cX9_walk 170 = .ok (.istore 4, 2) := by decide +kernel
theorem dX9_walk_172 : decode cX9_walk 172 = .ok (.goto 29, 3) := by decide +kernel
theorem dX9_walk_175 : decode cX9_walk 175 = .ok (.aload_n 0, 1) := by decide +kernel
theorem dX9_walk_176 : decode cX9_walk 176 = .ok (.iload 7, 2) := by decide +kernel
theorem dX9_walk_178 : decode cX9_walk 178 = .ok (.invokevirtual 79, 3) := by decide +kernel
theorem dX9_walk_181 : decode cX9_walk 181 = .ok (.ifCond .ne 6, 3) := by decide +kernel
theorem dX9_walk_184 : decode cX9_walk 184 = .ok (.bipush (-8), 2) := by decide +kernel
theorem dX9_walk_186 : decode cX9_walk 186 = .ok (.ireturn, 1) := by decide +kernel
theorem dX9_walk_187 : decode cX9_walk 187 = .ok (.aload_n 0, 1) := by decide +kernel
theorem dX9_walk_188 : decode cX9_walk 188 = .ok (.getfield 11, 3) := by decide +kernel
theorem dX9_walk_191 : decode cX9_walk 191 = .ok (.iconst 0, 1) := by decide +kernel
theorem dX9_walk_192 : decode cX9_walk 192 = .ok (.baload, 1) := by decide +kernel
theorem dX9_walk_193 : decode cX9_walk 193 = .ok (.bipush 47, 2) := by decide +kernel
theorem dX9_walk_195 : decode cX9_walk 195 = .ok (.if_icmp .ne 6, 3) := by decide +kernel
theorem dX9_walk_198 : decode cX9_walk 198 = .ok (.iconst 0, 1) := by decide +kernel
theorem dX9_walk_199 : decode cX9_walk 199 = .ok (.istore 4, 2) := by decide +kernel
theorem dX9_walk_201 : decode cX9_walk 201 = .ok (.iinc 5 1, 3) := by decide +kernel
theorem dX9_walk_204 : decode cX9_walk 204 = .ok (.goto (-157), 3) := by decide +kernel
theorem dX9_walk_207 : decode cX9_walk 207 = .ok (.bipush (-8), 2) := by decide +kernel
theorem dX9_walk_209 : decode cX9_walk 209 = .ok (.ireturn, 1) := by decide +kernel
def J_X9_walk_201 (b0 fu : Nat) (rc47 : Nat → Int32 → Int32 → Int32 → tM → Option ((Int32) × tM)) (x0 : Nat) (x3 : Int32) (x4 : Int32) (x5 : Int32) (σ : tM) : Option ((Int32) × tM) := ltb ((x5) + Int32.ofInt 1) (fun y63 => rc47 (x0) (x3) (x4) (y63) (σ))
def J_X9_walk_168 (b0 fu : Nat) (rc47 : Nat → Int32 → Int32 → Int32 → tM → Option ((Int32) × tM)) (x0 : Nat) (x3 : Int32) (x5 : Int32) (x7 : Int32) (σ : tM) : Option ((Int32) × tM) := J_X9_walk_201 b0 fu rc47  (x0) (x3) (x7) (x5) (σ)
def J_X9_walk_175 (b0 fu : Nat) (rc47 : Nat → Int32 → Int32 → Int32 → tM → Option ((Int32) × tM)) (x0 : Nat) (x3 : Int32) (x4 : Int32) (x5 : Int32) (x7 : Int32) (σ : tM) : Option ((Int32) × tM) := ckO b0 (σ) (x0) 9 (cll (m_X9_standIn b0 fu (x0) (x7) (σ)) (fun v67 ρ68 => if (v67) = (0) then some ((-8), ρ68) else ckO b0 (ρ68) (x0) 9 (osm (tA (ρ68) (x0) 1) (fun a73 => ckR b0 (ρ68) (a73) 1 (fun n77 => ckI (0) (n77) (if (tI (ρ68) (a73) (((0 : Int32)).toNatClampNeg)) = (47) then J_X9_walk_201 b0 fu rc47  (x0) (x3) (0) (x5) (ρ68) else J_X9_walk_201 b0 fu rc47  (x0) (x3) (x4) (x5) (ρ68)))))))
def J_X9_walk_144 (b0 fu : Nat) (rc47 : Nat → Int32 → Int32 → Int32 → tM → Option ((Int32) × tM)) (x0 : Nat) (x3 : Int32) (x4 : Int32) (x5 : Int32) (x7 : Int32) (s0 : Int32) (σ : tM) : Option ((Int32) × tM) := ckO b0 (σ) (x0) 9 (osm (tA (σ) (x0) 0) (fun a55 => ckO b0 (σ) (a55) 8 (cll (m_X8_kind b0 fu (a55) (x7) (σ)) (fun v59 ρ60 => if (v59) = (3) then if (s0) = (0) then J_X9_walk_175 b0 fu rc47  (x0) (x3) (x4) (x5) (x7) (ρ60) else if (x3) = (0) then J_X9_walk_168 b0 fu rc47  (x0) (x3) (x5) (x7) (ρ60) else J_X9_walk_175 b0 fu rc47  (x0) (x3) (x4) (x5) (x7) (ρ60) else J_X9_walk_168 b0 fu rc47  (x0) (x3) (x5) (x7) (ρ60)))))
def L_X9_walk_47 (b0 fu : Nat)  : Nat → Nat → Int32 → Int32 → Int32 → tM → Option ((Int32) × tM)
  | 0, _, _, _, _, _ => none
  | n + 1, x0, x3, x4, x5, σ => ltb (L_X9_walk_47 b0 fu  n) (fun rc47 => if (2000) ≤ (x5) then some ((-8), σ) else ckO b0 (σ) (x0) 9 (cll (m_X9_endOfSlashes b0 fu (x0) (tI (σ) (x0) 2) (σ)) (fun v29 ρ30 => ckO b0 (ρ30) (x0) 9 (if (tI (sI (ρ30) (x0) 2 (v29)) (x0) 2) < (tI (sI (ρ30) (x0) 2 (v29)) (x0) 3) then ltb ((tI (sI (ρ30) (x0) 2 (v29)) (x0) 2 : Int32)) (fun y35 => cll (m_X9_endOfName b0 fu (x0) (tI (sI (ρ30) (x0) 2 (v29)) (x0) 2) (sI (ρ30) (x0) 2 (v29))) (fun v36 ρ37 => ckO b0 (ρ37) (x0) 9 (cll (m_X9_look b0 fu (x0) (x4) (y35) ((tI (sI (ρ37) (x0) 2 (v36)) (x0) 2) - (y35)) (sI (ρ37) (x0) 2 (v36))) (fun v41 ρ42 => if (0) ≤ (v41) then ckO b0 (ρ42) (x0) 9 (cll (m_X9_endOfSlashes b0 fu (x0) (tI (ρ42) (x0) 2) (ρ42)) (fun v47 ρ48 => ckO b0 (ρ48) (x0) 9 (if (v47) < (tI (ρ48) (x0) 3) then J_X9_walk_144 b0 fu rc47  (x0) (x3) (x4) (x5) (v41) (0) (ρ48) else J_X9_walk_144 b0 fu rc47  (x0) (x3) (x4) (x5) (v41) (1) (ρ48)))) else some (v41, ρ42))))) else some (x4, sI (ρ30) (x0) 2 (v29))))))
def m_X9_walk (b0 fu : Nat) (a0 : Nat) (p0 : Nat) (p1 : Int32) (p2 : Int32) (σ : tM) : Option ((Int32) × tM) := grw σ (ckO b0 (σ) (a0) 9 (ckO b0 (sI (σ) (a0) 3 ((if ((0 : Int32)) < ((if ((120 : Int32)) < (p1) then (120) else (p1) : Int32)) then ((if ((120 : Int32)) < (p1) then (120) else (p1) : Int32)) else (0) : Int32))) (p0) 3 (osm (tA (sI (σ) (a0) 3 ((if ((0 : Int32)) < ((if ((120 : Int32)) < (p1) then (120) else (p1) : Int32)) then ((if ((120 : Int32)) < (p1) then (120) else (p1) : Int32)) else (0) : Int32))) (p0) 0) (fun a5 => osm (tA (sI (σ) (a0) 3 ((if ((0 : Int32)) < ((if ((120 : Int32)) < (p1) then (120) else (p1) : Int32)) then ((if ((120 : Int32)) < (p1) then (120) else (p1) : Int32)) else (0) : Int32))) (a0) 1) (fun a7 => ckR b0 (sI (σ) (a0) 3 ((if ((0 : Int32)) < ((if ((120 : Int32)) < (p1) then (120) else (p1) : Int32)) then ((if ((120 : Int32)) < (p1) then (120) else (p1) : Int32)) else (0) : Int32))) (a5) 1 (fun n11 => ckR b0 (sI (σ) (a0) 3 ((if ((0 : Int32)) < ((if ((120 : Int32)) < (p1) then (120) else (p1) : Int32)) then ((if ((120 : Int32)) < (p1) then (120) else (p1) : Int32)) else (0) : Int32))) (a7) 1 (fun n14 => ckC (0) (0) (tI (sI (σ) (a0) 3 ((if ((0 : Int32)) < ((if ((120 : Int32)) < (p1) then (120) else (p1) : Int32)) then ((if ((120 : Int32)) < (p1) then (120) else (p1) : Int32)) else (0) : Int32))) (a0) 3) (n11) (n14) (ckF (tI (sI (σ) (a0) 3 ((if ((0 : Int32)) < ((if ((120 : Int32)) < (p1) then (120) else (p1) : Int32)) then ((if ((120 : Int32)) < (p1) then (120) else (p1) : Int32)) else (0) : Int32))) (a5)) (0) (tI (sI (σ) (a0) 3 ((if ((0 : Int32)) < ((if ((120 : Int32)) < (p1) then (120) else (p1) : Int32)) then ((if ((120 : Int32)) < (p1) then (120) else (p1) : Int32)) else (0) : Int32))) (a0) 3) (ltb (sIr (sI (σ) (a0) 3 ((if ((0 : Int32)) < ((if ((120 : Int32)) < (p1) then (120) else (p1) : Int32)) then ((if ((120 : Int32)) < (p1) then (120) else (p1) : Int32)) else (0) : Int32))) (a7) (va_cpy (tI (sI (σ) (a0) 3 ((if ((0 : Int32)) < ((if ((120 : Int32)) < (p1) then (120) else (p1) : Int32)) then ((if ((120 : Int32)) < (p1) then (120) else (p1) : Int32)) else (0) : Int32))) (a5)) (tI (sI (σ) (a0) 3 ((if ((0 : Int32)) < ((if ((120 : Int32)) < (p1) then (120) else (p1) : Int32)) then ((if ((120 : Int32)) < (p1) then (120) else (p1) : Int32)) else (0) : Int32))) (a7)) (((0 : Int32)).toNatClampNeg) (((0 : Int32)).toNatClampNeg) ((tI (sI (σ) (a0) 3 ((if ((0 : Int32)) < ((if ((120 : Int32)) < (p1) then (120) else (p1) : Int32)) then ((if ((120 : Int32)) < (p1) then (120) else (p1) : Int32)) else (0) : Int32))) (a0) 3).toNatClampNeg))) (fun ρ17 => L_X9_walk_47 b0 fu  (fu) (a0) (p2) (0) (0) (sI (sI (ρ17) (a0) 2 (0)) (a0) 4 (0))))))))))))
set_option maxRecDepth 100000 in
set_option maxHeartbeats 1000000 in
theorem j_X9_walk_201 {p : Program} {l : Launch} {e : Env} {s : State} {m : MethodId} {args : Array Value} {below : List Frame} {meth : Method} {c : Code} {D : va_G} {aC : Nat → ClassId} {b0 fu : Nat} {σ0 τ : tM} {v : Int32} {rc47 : Nat → Int32 → Int32 → Int32 → tM → Option ((Int32) × tM)} (C : tCx p l s m args meth c yX9_walk.cls cX9_walk 9 (some .int) D aC b0 σ0) (htab : ∀ x ∈ c.exceptionTable.toList, False) (hin : meth.name = yX9_walk.name) (hrc47 : ∀ (x0 : Nat) (x3 : Int32) (x4 : Int32) (x5 : Int32) (ρ : tM), rc47 x0 x3 x4 x5 ρ = some (v, τ) → tX p l e s m args below meth c 9 4 100 D aC b0 σ0 (.inl (some (.int v))) τ 47 [(0, .ref (x0)), (3, .int (x3)), (4, .int (x4)), (5, .int (x5))] [] ρ) {x0 : Nat} {x3 : Int32} {x4 : Int32} {x5 : Int32} {σ : tM} (hm : J_X9_walk_201 b0 fu rc47 x0 x3 x4 x5 σ = some (v, τ)) : tX p l e s m args below meth c 9 4 100 D aC b0 σ0 (.inl (some (.int v))) τ 201 [(0, .ref (x0)), (3, .int (x3)), (4, .int (x4)), (5, .int (x5))] [] σ := by
  unfold J_X9_walk_201 at hm
  obtain ⟨y63, hy63⟩ : ∃ z : Int32, z = (x5) + Int32.ofInt 1 := ⟨_, rfl⟩
  replace hm := ltb_e hm hy63
  refine zx_iinc C [(5, .int (y63)), (0, .ref (x0)), (3, .int (x3)), (4, .int (x4))] dX9_walk_201 3 rfl hy63.symm (by decide) rfl ?_
  refine zx_goto C 47 dX9_walk_204 (by decide) ?_
  exact zx_lv [1, 2, 3, 0] [(0, .ref (x0)), (3, .int (x3)), (4, .int (x4)), (5, .int (y63))] rfl (hrc47 _ _ _ _ _ hm)
set_option maxRecDepth 100000 in
set_option maxHeartbeats 1000000 in
theorem j_X9_walk_168 {p : Program} {l : Launch} {e : Env} {s : State} {m : MethodId} {args : Array Value} {below : List Frame} {meth : Method} {c : Code} {D : va_G} {aC : Nat → ClassId} {b0 fu : Nat} {σ0 τ : tM} {v : Int32} {rc47 : Nat → Int32 → Int32 → Int32 → tM → Option ((Int32) × tM)} (C : tCx p l s m args meth c yX9_walk.cls cX9_walk 9 (some .int) D aC b0 σ0) (htab : ∀ x ∈ c.exceptionTable.toList, False) (hin : meth.name = yX9_walk.name) (hrc47 : ∀ (x0 : Nat) (x3 : Int32) (x4 : Int32) (x5 : Int32) (ρ : tM), rc47 x0 x3 x4 x5 ρ = some (v, τ) → tX p l e s m args below meth c 9 4 100 D aC b0 σ0 (.inl (some (.int v))) τ 47 [(0, .ref (x0)), (3, .int (x3)), (4, .int (x4)), (5, .int (x5))] [] ρ) {x0 : Nat} {x3 : Int32} {x5 : Int32} {x7 : Int32} {σ : tM} (hm : J_X9_walk_168 b0 fu rc47 x0 x3 x5 x7 σ = some (v, τ)) : tX p l e s m args below meth c 9 4 100 D aC b0 σ0 (.inl (some (.int v))) τ 168 [(0, .ref (x0)), (3, .int (x3)), (5, .int (x5)), (7, .int (x7))] [] σ := by
  unfold J_X9_walk_168 at hm
  refine zx_iload C dX9_walk_168 3 rfl ?_
  refine zx_istore C [(4, .int (x7)), (0, .ref (x0)), (3, .int (x3)), (5, .int (x5)), (7, .int (x7))] dX9_walk_170 (by decide) rfl ?_
  refine zx_goto C 201 dX9_walk_172 (by decide) ?_
  exact zx_lv [1, 2, 0, 3] [(0, .ref (x0)), (3, .int (x3)), (4, .int (x7)), (5, .int (x5))] rfl (j_X9_walk_201 C htab hin hrc47   hm)
set_option maxRecDepth 100000 in
set_option maxHeartbeats 1000000 in
theorem j_X9_walk_175 {p : Program} {l : Launch} {e : Env} {s : State} {m : MethodId} {args : Array Value} {below : List Frame} {meth : Method} {c : Code} {D : va_G} {aC : Nat → ClassId} {b0 fu : Nat} {σ0 τ : tM} {v : Int32} {rc47 : Nat → Int32 → Int32 → Int32 → tM → Option ((Int32) × tM)} (C : tCx p l s m args meth c yX9_walk.cls cX9_walk 9 (some .int) D aC b0 σ0) (htab : ∀ x ∈ c.exceptionTable.toList, False) (hin : meth.name = yX9_walk.name) (hrc47 : ∀ (x0 : Nat) (x3 : Int32) (x4 : Int32) (x5 : Int32) (ρ : tM), rc47 x0 x3 x4 x5 ρ = some (v, τ) → tX p l e s m args below meth c 9 4 100 D aC b0 σ0 (.inl (some (.int v))) τ 47 [(0, .ref (x0)), (3, .int (x3)), (4, .int (x4)), (5, .int (x5))] [] ρ) {x0 : Nat} {x3 : Int32} {x4 : Int32} {x5 : Int32} {x7 : Int32} {σ : tM} (hm : J_X9_walk_175 b0 fu rc47 x0 x3 x4 x5 x7 σ = some (v, τ)) : tX p l e s m args below meth c 9 4 100 D aC b0 σ0 (.inl (some (.int v))) τ 175 [(0, .ref (x0)), (3, .int (x3)), (4, .int (x4)), (5, .int (x5)), (7, .int (x7))] [] σ := by
  unfold J_X9_walk_175 at hm
  refine zx_aload_n C dX9_walk_175 0 rfl ?_
  refine zx_iload C dX9_walk_176 4 rfl ?_
  obtain ⟨k65, i66, hm⟩ := ckO_e hm
  obtain ⟨v67, ρ68, h69, hm⟩ := cll_e hm
  refine zx_callV (σ := σ) C [.int (x7)] tC_9 k65 i66 Y_X9_standIn W_4_128 W_4_130 Wp_26 (c_X9_standIn h69) (by decide) (by decide) rfl (Nat.le_of_ble_eq_true rfl) dX9_walk_178 rfl ?_
  refine zx_if_ne C 187 dX9_walk_181 (by decide) (fun c70 => ?_) (fun c70 => ?_)
  · replace hm := in_e hm c70
    refine zx_aload_n C dX9_walk_187 0 rfl ?_
    obtain ⟨k71, i72, hm⟩ := ckO_e hm
    obtain ⟨a73, h74, hm⟩ := osm_e hm
    refine zx_get (j := 1) C tC_9 k71 i72 ⟨by decide, Or.inl W_2_21⟩ dX9_walk_188 (.ref a73) (rf_s h74) ?_
    refine zx_iconst (v := 0) C dX9_walk_191 (by decide) ?_
    obtain ⟨n77, k75, i76, hm⟩ := ckR_e hm
    obtain ⟨h78, hm⟩ := ckI_e hm
    refine zx_bald C k75 i76 h78 dX9_walk_192 ?_
    refine zx_bipush (v := 47) C dX9_walk_193 (by decide) ?_
    refine zx_icmp_ne C 201 dX9_walk_195 (by decide) (fun c79 => ?_) (fun c79 => ?_)
    · replace hm := in_e hm c79
      exact zx_lv [0, 1, 2, 3] [(0, .ref (x0)), (3, .int (x3)), (4, .int (x4)), (5, .int (x5))] rfl (j_X9_walk_201 C htab hin hrc47   hm)
    · replace hm := ip_e hm c79
      refine zx_iconst (v := 0) C dX9_walk_198 (by decide) ?_
      refine zx_istore C [(4, .int (0)), (0, .ref (x0)), (3, .int (x3)), (5, .int (x5)), (7, .int (x7))] dX9_walk_199 (by decide) rfl ?_
      exact zx_lv [1, 2, 0, 3] [(0, .ref (x0)), (3, .int (x3)), (4, .int (0)), (5, .int (x5))] rfl (j_X9_walk_201 C htab hin hrc47   hm)
  · replace hm := ip_e hm c70
    refine zx_bipush (v := (-8)) C dX9_walk_184 (by decide) ?_
    obtain ⟨rfl, rfl⟩ := ret_e hm
    exact zx_iret C rfl rfl rfl dX9_walk_186
set_option maxRecDepth 100000 in
set_option maxHeartbeats 1000000 in
theorem j_X9_walk_144 {p : Program} {l : Launch} {e : Env} {s : State} {m : MethodId} {args : Array Value} {below : List Frame} {meth : Method} {c : Code} {D : va_G} {aC : Nat → ClassId} {b0 fu : Nat} {σ0 τ : tM} {v : Int32} {rc47 : Nat → Int32 → Int32 → Int32 → tM → Option ((Int32) × tM)} (C : tCx p l s m args meth c yX9_walk.cls cX9_walk 9 (some .int) D aC b0 σ0) (htab : ∀ x ∈ c.exceptionTable.toList, False) (hin : meth.name = yX9_walk.name) (hrc47 : ∀ (x0 : Nat) (x3 : Int32) (x4 : Int32) (x5 : Int32) (ρ : tM), rc47 x0 x3 x4 x5 ρ = some (v, τ) → tX p l e s m args below meth c 9 4 100 D aC b0 σ0 (.inl (some (.int v))) τ 47 [(0, .ref (x0)), (3, .int (x3)), (4, .int (x4)), (5, .int (x5))] [] ρ) {x0 : Nat} {x3 : Int32} {x4 : Int32} {x5 : Int32} {x7 : Int32} {s0 : Int32} {σ : tM} (hm : J_X9_walk_144 b0 fu rc47 x0 x3 x4 x5 x7 s0 σ = some (v, τ)) : tX p l e s m args below meth c 9 4 100 D aC b0 σ0 (.inl (some (.int v))) τ 144 [(0, .ref (x0)), (3, .int (x3)), (4, .int (x4)), (5, .int (x5)), (7, .int (x7))] [.int (s0)] σ := by
  unfold J_X9_walk_144 at hm
  refine zx_istore C [(8, .int (s0)), (0, .ref (x0)), (3, .int (x3)), (4, .int (x4)), (5, .int (x5)), (7, .int (x7))] dX9_walk_144 (by decide) rfl ?_
  refine zx_aload_n C dX9_walk_146 1 rfl ?_
  obtain ⟨k53, i54, hm⟩ := ckO_e hm
  obtain ⟨a55, h56, hm⟩ := osm_e hm
  refine zx_get (j := 0) C tC_9 k53 i54 ⟨by decide, Or.inl W_2_20⟩ dX9_walk_147 (.ref a55) (rf_s h56) ?_
  refine zx_iload C dX9_walk_150 5 rfl ?_
  obtain ⟨k57, i58, hm⟩ := ckO_e hm
  obtain ⟨v59, ρ60, h61, hm⟩ := cll_e hm
  refine zx_callV (σ := σ) C [.int (x7)] tC_8 k57 i58 Y_X8_kind W_4_92 W_3_80 W_3_81 (c_X8_kind h61) (by decide) (by decide) rfl (Nat.le_of_ble_eq_true rfl) dX9_walk_152 rfl ?_
  refine zx_iconst (v := 3) C dX9_walk_155 (by decide) ?_
  refine zx_icmp_ne C 168 dX9_walk_156 (by decide) (fun c62 => ?_) (fun c62 => ?_)
  · replace hm := in_e hm c62
    exact zx_lv [1, 2, 4, 5] [(0, .ref (x0)), (3, .int (x3)), (5, .int (x5)), (7, .int (x7))] rfl (j_X9_walk_168 C htab hin hrc47   hm)
  · replace hm := ip_e hm c62
    refine zx_iload C dX9_walk_159 0 rfl ?_
    refine zx_if_eq C 175 dX9_walk_161 (by decide) (fun c64 => ?_) (fun c64 => ?_)
    · replace hm := ip_e hm c64
      exact zx_lv [1, 2, 3, 4, 5] [(0, .ref (x0)), (3, .int (x3)), (4, .int (x4)), (5, .int (x5)), (7, .int (x7))] rfl (j_X9_walk_175 C htab hin hrc47   hm)
    · replace hm := in_e hm c64
      refine zx_iload_n C dX9_walk_164 2 rfl ?_
      refine zx_if_ne C 175 dX9_walk_165 (by decide) (fun c80 => ?_) (fun c80 => ?_)
      · replace hm := in_e hm c80
        exact zx_lv [1, 2, 3, 4, 5] [(0, .ref (x0)), (3, .int (x3)), (4, .int (x4)), (5, .int (x5)), (7, .int (x7))] rfl (j_X9_walk_175 C htab hin hrc47   hm)
      · replace hm := ip_e hm c80
        exact zx_lv [1, 2, 4, 5] [(0, .ref (x0)), (3, .int (x3)), (5, .int (x5)), (7, .int (x7))] rfl (j_X9_walk_168 C htab hin hrc47   hm)
set_option maxRecDepth 100000 in
set_option maxHeartbeats 1000000 in
theorem l_X9_walk_47 {p : Program} {l : Launch} {e : Env} {s : State} {m : MethodId} {args : Array Value} {below : List Frame} {meth : Method} {c : Code} {D : va_G} {aC : Nat → ClassId} {b0 fu : Nat} {σ0 τ : tM} {v : Int32}  (C : tCx p l s m args meth c yX9_walk.cls cX9_walk 9 (some .int) D aC b0 σ0) (htab : ∀ x ∈ c.exceptionTable.toList, False) (hin : meth.name = yX9_walk.name)  : ∀ (n : Nat) (x0 : Nat) (x3 : Int32) (x4 : Int32) (x5 : Int32) (σ : tM), L_X9_walk_47 b0 fu  n x0 x3 x4 x5 σ = some (v, τ) → tX p l e s m args below meth c 9 4 100 D aC b0 σ0 (.inl (some (.int v))) τ 47 [(0, .ref (x0)), (3, .int (x3)), (4, .int (x4)), (5, .int (x5))] [] σ := by
  intro n
  induction n with
  | zero => intro x0 x3 x4 x5 σ hm; unfold L_X9_walk_47 at hm; cases hm
  | succ n ih =>
    intro x0 x3 x4 x5 σ hm
    unfold L_X9_walk_47 at hm
    obtain ⟨rc47, hrc⟩ : ∃ z, z = L_X9_walk_47 b0 fu  n := ⟨_, rfl⟩
    replace hm := ltb_e hm hrc
    rw [← hrc] at ih
    have hrc47 := ih
    clear ih hrc
    refine zx_iload C dX9_walk_47 3 rfl ?_
    refine zx_sipush (v := 2000) C dX9_walk_49 (by decide) ?_
    refine zx_icmp_ge C 207 dX9_walk_52 (by decide) (fun c26 => ?_) (fun c26 => ?_)
    · replace hm := ip_e hm c26
      refine zx_bipush (v := (-8)) C dX9_walk_207 (by decide) ?_
      obtain ⟨rfl, rfl⟩ := ret_e hm
      exact zx_iret C rfl rfl rfl dX9_walk_209
    · replace hm := in_e hm c26
      refine zx_aload_n C dX9_walk_55 0 rfl ?_
      refine zx_aload_n C dX9_walk_56 0 rfl ?_
      refine zx_aload_n C dX9_walk_57 0 rfl ?_
      obtain ⟨k27, i28, hm⟩ := ckO_e hm
      refine zx_get (j := 2) C tC_9 k27 i28 ⟨by decide, Or.inl W_2_22⟩ dX9_walk_58 (.int (tI (σ) (x0) 2)) rfl ?_
      obtain ⟨v29, ρ30, h31, hm⟩ := cll_e hm
      refine zx_callV (σ := σ) C [.int (tI (σ) (x0) 2)] tC_9 k27 i28 Y_X9_endOfSlashes W_4_80 W_4_82 Wp_22 (c_X9_endOfSlashes h31) (by decide) (by decide) rfl (Nat.le_of_ble_eq_true rfl) dX9_walk_61 rfl ?_
      obtain ⟨k32, i33, hm⟩ := ckO_e hm
      refine zx_put (j := 2) (ρ := sI (ρ30) (x0) 2 (v29)) C tC_9 k32 i33 ⟨by decide, Or.inl W_2_22⟩ rfl rfl rfl (sI_ok (fun _ => rfl)) dX9_walk_64 ?_
      refine zx_aload_n C dX9_walk_67 0 rfl ?_
      refine zx_get (j := 2) C tC_9 k32 i33 ⟨by decide, Or.inl W_2_22⟩ dX9_walk_68 (.int (tI (sI (ρ30) (x0) 2 (v29)) (x0) 2)) rfl ?_
      refine zx_aload_n C dX9_walk_71 0 rfl ?_
      refine zx_get (j := 3) C tC_9 k32 i33 ⟨by decide, Or.inl W_2_23⟩ dX9_walk_72 (.int (tI (sI (ρ30) (x0) 2 (v29)) (x0) 3)) rfl ?_
      refine zx_icmp_lt C 81 dX9_walk_75 (by decide) (fun c34 => ?_) (fun c34 => ?_)
      · replace hm := ip_e hm c34
        refine zx_aload_n C dX9_walk_81 0 rfl ?_
        refine zx_get (j := 2) C tC_9 k32 i33 ⟨by decide, Or.inl W_2_22⟩ dX9_walk_82 (.int (tI (sI (ρ30) (x0) 2 (v29)) (x0) 2)) rfl ?_
        refine zx_topi (fun y35 hy35 => ?_)
        replace hm := ltb_e hm hy35
        refine zx_istore C [(6, .int (y35)), (0, .ref (x0)), (3, .int (x3)), (4, .int (x4)), (5, .int (x5))] dX9_walk_85 (by decide) rfl ?_
        refine zx_aload_n C dX9_walk_87 1 rfl ?_
        refine zx_aload_n C dX9_walk_88 1 rfl ?_
        refine zx_aload_n C dX9_walk_89 1 rfl ?_
        refine zx_get (j := 2) C tC_9 k32 i33 ⟨by decide, Or.inl W_2_22⟩ dX9_walk_90 (.int (tI (sI (ρ30) (x0) 2 (v29)) (x0) 2)) rfl ?_
        obtain ⟨v36, ρ37, h38, hm⟩ := cll_e hm
        refine zx_callV (σ := sI (ρ30) (x0) 2 (v29)) C [.int (tI (sI (ρ30) (x0) 2 (v29)) (x0) 2)] tC_9 k32 i33 Y_X9_endOfName W_4_84 W_4_86 Wp_23 (c_X9_endOfName h38) (by decide) (by decide) rfl (Nat.le_of_ble_eq_true rfl) dX9_walk_93 rfl ?_
        obtain ⟨k39, i40, hm⟩ := ckO_e hm
        refine zx_put (j := 2) (ρ := sI (ρ37) (x0) 2 (v36)) C tC_9 k39 i40 ⟨by decide, Or.inl W_2_22⟩ rfl rfl rfl (sI_ok (fun _ => rfl)) dX9_walk_96 ?_
        refine zx_aload_n C dX9_walk_99 1 rfl ?_
        refine zx_iload C dX9_walk_100 3 rfl ?_
        refine zx_iload C dX9_walk_102 0 rfl ?_
        refine zx_aload_n C dX9_walk_104 1 rfl ?_
        refine zx_get (j := 2) C tC_9 k39 i40 ⟨by decide, Or.inl W_2_22⟩ dX9_walk_105 (.int (tI (sI (ρ37) (x0) 2 (v36)) (x0) 2)) rfl ?_
        refine zx_iload C dX9_walk_108 0 rfl ?_
        refine zx_isub C dX9_walk_110 ?_
        obtain ⟨v41, ρ42, h43, hm⟩ := cll_e hm
        refine zx_callV (σ := sI (ρ37) (x0) 2 (v36)) C [.int (x4), .int (y35), .int ((tI (sI (ρ37) (x0) 2 (v36)) (x0) 2) - (y35))] tC_9 k39 i40 Y_X9_look W_4_88 W_4_90 Wp_24 (c_X9_look h43) (by decide) (by decide) rfl (Nat.le_of_ble_eq_true rfl) dX9_walk_111 rfl ?_
        refine zx_istore C [(7, .int (v41)), (6, .int (y35)), (0, .ref (x0)), (3, .int (x3)), (4, .int (x4)), (5, .int (x5))] dX9_walk_114 (by decide) rfl ?_
        refine zx_iload C dX9_walk_116 0 rfl ?_
        refine zx_if_ge C 124 dX9_walk_118 (by decide) (fun c44 => ?_) (fun c44 => ?_)
        · replace hm := ip_e hm c44
          refine zx_aload_n C dX9_walk_124 2 rfl ?_
          refine zx_aload_n C dX9_walk_125 2 rfl ?_
          obtain ⟨k45, i46, hm⟩ := ckO_e hm
          refine zx_get (j := 2) C tC_9 k45 i46 ⟨by decide, Or.inl W_2_22⟩ dX9_walk_126 (.int (tI (ρ42) (x0) 2)) rfl ?_
          obtain ⟨v47, ρ48, h49, hm⟩ := cll_e hm
          refine zx_callV (σ := ρ42) C [.int (tI (ρ42) (x0) 2)] tC_9 k45 i46 Y_X9_endOfSlashes W_4_80 W_4_82 Wp_22 (c_X9_endOfSlashes h49) (by decide) (by decide) rfl (Nat.le_of_ble_eq_true rfl) dX9_walk_129 rfl ?_
          refine zx_aload_n C dX9_walk_132 2 rfl ?_
          obtain ⟨k50, i51, hm⟩ := ckO_e hm
          refine zx_get (j := 3) C tC_9 k50 i51 ⟨by decide, Or.inl W_2_23⟩ dX9_walk_133 (.int (tI (ρ48) (x0) 3)) rfl ?_
          refine zx_icmp_lt C 143 dX9_walk_136 (by decide) (fun c52 => ?_) (fun c52 => ?_)
          · replace hm := ip_e hm c52
            refine zx_iconst (v := 0) C dX9_walk_143 (by decide) ?_
            exact zx_lv [2, 3, 4, 5, 0] [(0, .ref (x0)), (3, .int (x3)), (4, .int (x4)), (5, .int (x5)), (7, .int (v41))] rfl (j_X9_walk_144 C htab hin hrc47   hm)
          · replace hm := in_e hm c52
            refine zx_iconst (v := 1) C dX9_walk_139 (by decide) ?_
            refine zx_goto C 144 dX9_walk_140 (by decide) ?_
            exact zx_lv [2, 3, 4, 5, 0] [(0, .ref (x0)), (3, .int (x3)), (4, .int (x4)), (5, .int (x5)), (7, .int (v41))] rfl (j_X9_walk_144 C htab hin hrc47   hm)
        · replace hm := in_e hm c44
          refine zx_iload C dX9_walk_121 0 rfl ?_
          obtain ⟨rfl, rfl⟩ := ret_e hm
          exact zx_iret C rfl rfl rfl dX9_walk_123
      · replace hm := in_e hm c34
        refine zx_iload C dX9_walk_78 2 rfl ?_
        obtain ⟨rfl, rfl⟩ := ret_e hm
        exact zx_iret C rfl rfl rfl dX9_walk_80
set_option maxRecDepth 100000 in
set_option maxHeartbeats 1000000 in
theorem c_X9_walk {l : Launch} {D : va_G} {aC : Nat → ClassId} {b0 fu : Nat} {a0 : Nat} {p0 : Nat} {p1 : Int32} {p2 : Int32} {σ τ : tM} {v : Int32} (hm : m_X9_walk b0 fu a0 p0 p1 p2 σ = some (v, τ)) : tMt l D aC b0 yX9_walk (Cond.code yX9_walk cX9_walk 9 (some .int)) 4 100 [.ref (a0), .ref (p0), .int (p1), .int (p2)] σ (.inl (some (.int v))) τ := by
  unfold m_X9_walk at hm
  obtain ⟨hg, hm⟩ := grw_e hm
  refine tMt_of (n := 0) rfl (Nat.le_of_ble_eq_true rfl) hg ?_
  intro p e s m below meth c C htab hin
  refine zx_lv [0, 1, 2, 3] [(0, .ref (a0)), (1, .ref (p0)), (2, .int (p1)), (3, .int (p2))] rfl ?_
  refine zx_aload_n C dX9_walk_0 0 rfl ?_
  refine zx_iconst (v := 0) C dX9_walk_1 (by decide) ?_
  refine zx_iload_n C dX9_walk_2 2 rfl ?_
  refine zx_bipush (v := 120) C dX9_walk_3 (by decide) ?_
  refine zx_min C W_4_77 W_2_106 W_1_10 W_2_107 (by decide) (by decide) (Nat.le_of_ble_eq_true rfl) dX9_walk_5 ?_
  refine zx_max C W_4_78 W_2_109 W_1_10 W_2_110 (by decide) (by decide) (Nat.le_of_ble_eq_true rfl) dX9_walk_8 ?_
  obtain ⟨k1, i2, hm⟩ := ckO_e hm
  refine zx_put (j := 3) (ρ := sI (σ) (a0) 3 ((if ((0 : Int32)) < ((if ((120 : Int32)) < (p1) then (120) else (p1) : Int32)) then ((if ((120 : Int32)) < (p1) then (120) else (p1) : Int32)) else (0) : Int32))) C tC_9 k1 i2 ⟨by decide, Or.inl W_2_23⟩ rfl rfl rfl (sI_ok (fun _ => rfl)) dX9_walk_11 ?_
  refine zx_aload_n C dX9_walk_14 1 rfl ?_
  obtain ⟨k3, i4, hm⟩ := ckO_e hm
  obtain ⟨a5, h6, hm⟩ := osm_e hm
  refine zx_get (j := 0) C tC_3 k3 i4 ⟨by decide, Or.inr ⟨_, W_2_57⟩⟩ dX9_walk_15 (.ref a5) (rf_s h6) ?_
  refine zx_iconst (v := 0) C dX9_walk_18 (by decide) ?_
  refine zx_aload_n C dX9_walk_19 0 rfl ?_
  obtain ⟨a7, h8, hm⟩ := osm_e hm
  refine zx_get (j := 1) C tC_9 k1 i2 ⟨by decide, Or.inl W_2_21⟩ dX9_walk_20 (.ref a7) (rf_s h8) ?_
  refine zx_iconst (v := 0) C dX9_walk_23 (by decide) ?_
  refine zx_aload_n C dX9_walk_24 0 rfl ?_
  refine zx_get (j := 3) C tC_9 k1 i2 ⟨by decide, Or.inl W_2_23⟩ dX9_walk_25 (.int (tI (sI (σ) (a0) 3 ((if ((0 : Int32)) < ((if ((120 : Int32)) < (p1) then (120) else (p1) : Int32)) then ((if ((120 : Int32)) < (p1) then (120) else (p1) : Int32)) else (0) : Int32))) (a0) 3)) rfl ?_
  obtain ⟨n11, k9, i10, hm⟩ := ckR_e hm
  obtain ⟨n14, k12, i13, hm⟩ := ckR_e hm
  obtain ⟨h15, hm⟩ := ckC_e hm
  obtain ⟨h81, hm⟩ := ckF_e hm
  refine zx_copyB (σ := sI (σ) (a0) 3 ((if ((0 : Int32)) < ((if ((120 : Int32)) < (p1) then (120) else (p1) : Int32)) then ((if ((120 : Int32)) < (p1) then (120) else (p1) : Int32)) else (0) : Int32))) C W_4_79 W_2_135 W_2_134 W_1_11 k9 i10 k12 i13 h15 h81 (by decide) (by decide) (Nat.le_of_ble_eq_true rfl) dX9_walk_28 ?_
  refine zx_mem (fun ρ17 hρ17 => ?_)
  replace hm := ltb_e hm hρ17
  have k18 : tk ρ17 (a0) = .inl 9 := by rw [hρ17]; exact k1
  have i19 : tIn b0 ρ17 (a0) := by rw [hρ17]; exact i2
  have k20 : tk ρ17 (p0) = .inl 3 := by rw [hρ17]; exact k3
  have i21 : tIn b0 ρ17 (p0) := by rw [hρ17]; exact i4
  have k22 : tk ρ17 (a5) = .inr (1, n11) := by rw [hρ17]; exact k9
  have i23 : tIn b0 ρ17 (a5) := by rw [hρ17]; exact i10
  have k24 : tk ρ17 (a7) = .inr (1, n14) := by rw [hρ17]; exact k12
  have i25 : tIn b0 ρ17 (a7) := by rw [hρ17]; exact i13
  refine zx_aload_n C dX9_walk_31 0 rfl ?_
  refine zx_iconst (v := 0) C dX9_walk_32 (by decide) ?_
  refine zx_put (j := 2) (ρ := sI (ρ17) (a0) 2 (0)) C tC_9 k18 i19 ⟨by decide, Or.inl W_2_22⟩ rfl rfl rfl (sI_ok (fun _ => rfl)) dX9_walk_33 ?_
  refine zx_aload_n C dX9_walk_36 0 rfl ?_
  refine zx_iconst (v := 0) C dX9_walk_37 (by decide) ?_
  refine zx_put (j := 4) (ρ := sI (sI (ρ17) (a0) 2 (0)) (a0) 4 (0)) C tC_9 k18 i19 ⟨by decide, Or.inl W_2_24⟩ rfl rfl rfl (sI_ok (fun _ => rfl)) dX9_walk_38 ?_
  refine zx_iconst (v := 0) C dX9_walk_41 (by decide) ?_
  refine zx_istore C [(4, .int (0)), (0, .ref (a0)), (1, .ref (p0)), (2, .int (p1)), (3, .int (p2))] dX9_walk_42 (by decide) rfl ?_
  refine zx_iconst (v := 0) C dX9_walk_44 (by decide) ?_
  refine zx_istore C [(5, .int (0)), (4, .int (0)), (0, .ref (a0)), (1, .ref (p0)), (2, .int (p1)), (3, .int (p2))] dX9_walk_45 (by decide) rfl ?_
  exact zx_lv [2, 5, 1, 0] [(0, .ref (a0)), (3, .int (p2)), (4, .int (0)), (5, .int (0))] rfl (l_X9_walk_47 C htab hin  _ _ _ _ _ _ hm)
