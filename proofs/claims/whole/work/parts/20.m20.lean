abbrev cX12_total : ByteArray := prog_13_method_116_code
def yX12_total : MethodName := ⟨"SyncTreeModel", "total", "(I)I"⟩
theorem Y_X12_total : tY yX12_total cX12_total 2 (some .int) 1 := ⟨W_9_117, W_1_14, ⟨by decide +kernel, by decide +kernel⟩, by decide +kernel⟩
theorem dX12_total_0 : decode cX12_total 0 = .ok (.aload_n 0, 1) := by decide +kernel
theorem dX12_total_1 : decode cX12_total 1 = .ok (.iconst 0, 1) := by decide +kernel
theorem dX12_total_2 : decode cX12_total 2 = .ok (.putfield 3, 3) := by decide +kernel
theorem dX12_total_5 : decode cX12_total 5 = .ok (.iload_n 1, 1) := by decide +kernel
theorem dX12_total_6 : decode cX12_total 6 = .ok (.ifCond .lt 9, 3) := by decide +kernel
theorem dX12_total_9 : decode cX12_total 9 = .ok (.iload_n 1, 1) := by decide +kernel
theorem dX12_total_10 : decode cX12_total 10 = .ok (.bipush 18, 2) := by decide +kernel
theorem dX12_total_12 : decode cX12_total 12 = .ok (.if_icmp .le 6, 3) := by decide +kernel
theorem dX12_total_15 : decode cX12_total 15 = .ok (.bipush (-9), 2) := by decide +kernel
theorem dX12_total_17 : decode cX12_total 17 = .ok (.ireturn, 1) := by decide +kernel
theorem dX12_total_18 : decode cX12_total 18 = .ok (.aload_n 0, 1) := by decide +kernel
theorem dX12_total_19 : decode cX12_total 19 = .ok (.getfield 58, 3) := by decide +kernel
theorem dX12_total_22 : decode cX12_total 22 = .ok (.ifCond .ne 10, 3) := by decide +kernel
theorem dX12_total_25 : decode cX12_total 25 = .ok (.iload_n 1, 1) := by decide +kernel
theorem dX12_total_26 : decode cX12_total 26 = .ok (.iconst 5, 1) := by decide +kernel
theorem dX12_total_27 : decode cX12_total 27 = .ok (.if_icmp .lt 5, 3) := by decide +kernel
theorem dX12_total_30 : decode cX12_total 30 = .ok (.iconst (-1), 1) := by decide +kernel
theorem dX12_total_31 : decode cX12_total 31 = .ok (.ireturn, 1) := by decide +kernel
theorem dX12_total_32 : decode cX12_total 32 = .ok (.iload_n 1, 1) := by decide +kernel
theorem dX12_total_33 : decode cX12_total 33 = .ok (.tableswitch 191 0 17 #[87, 100, 105, 110, 115, 120, 125, 130, 135, 140, 145, 153, 161, 166, 171, 176, 181, 186], 87) := by decide +kernel
theorem dX12_total_120 : decode cX12_total 120 = .ok (.aload_n 0, 1) := by decide +kernel
theorem dX12_total_121 : decode cX12_total 121 = .ok (.getfield 58, 3) := by decide +kernel
theorem dX12_total_124 : decode cX12_total 124 = .ok (.ifCond .eq 7, 3) := by decide +kernel
theorem dX12_total_127 : decode cX12_total 127 = .ok (.iconst 1, 1) := by decide +kernel
theorem dX12_total_128 : decode cX12_total 128 = .ok (.goto 4, 3) := by decide +kernel
theorem dX12_total_131 : decode cX12_total 131 = .ok (.iconst 0, 1) := by decide +kernel
theorem dX12_total_132 : decode cX12_total 132 = .ok (.ireturn, 1) := by decide +kernel
theorem dX12_total_133 : decode cX12_total 133 = .ok (.aload_n 0, 1) := by decide +kernel
theorem dX12_total_134 : decode cX12_total 134 = .ok (.getfield 93, 3) := by decide +kernel
theorem dX12_total_137 : decode cX12_total 137 = .ok (.ireturn, 1) := by decide +kernel
theorem dX12_total_138 : decode cX12_total 138 = .ok (.aload_n 0, 1) := by decide +kernel
theorem dX12_total_139 : decode cX12_total 139 = .ok (.getfield 55, 3) := by decide +kernel
theorem dX12_total_142 : decode cX12_total 142 = .ok (.ireturn, 1) := by decide +kernel
theorem dX12_total_143 : decode cX12_total 143 = .ok (.aload_n 0, 1) := by decide +kernel
theorem dX12_total_144 : decode cX12_total 144 = .ok (.getfield 105, 3) := by decide +kernel
theorem dX12_total_147 : decode cX12_total 147 = .ok (.ireturn, 1) := by decide +kernel
theorem dX12_total_148 : decode cX12_total 148 = .ok (.aload_n 0, 1) := by decide +kernel
theorem dX12_total_149 : decode cX12_total 149 = .ok (.getfield 44, 3) := by decide +kernel
theorem dX12_total_152 : decode cX12_total 152 = .ok (.ireturn, 1) := by decide +kernel
theorem dX12_total_153 : decode cX12_total 153 = .ok (.aload_n 0, 1) := by decide +kernel
theorem dX12_total_154 : decode cX12_total 154 = .ok (.invokevirtual 311, 3) := by decide +kernel
theorem dX12_total_157 : decode cX12_total 157 = .ok (.ireturn, 1) := by decide +kernel
theorem dX12_total_158 : decode cX12_total 158 = .ok (.aload_n 0, 1) := by decide +kernel
theorem dX12_total_159 : decode cX12_total 159 = .ok (.invokevirtual 475, 3) := by decide +kernel
theorem dX12_total_162 : decode cX12_total 162 = .ok (.ireturn, 1) := by decide +kernel
theorem dX12_total_163 : decode cX12_total 163 = .ok (.aload_n 0, 1) := by decide +kernel
theorem dX12_total_164 : decode cX12_total 164 = .ok (.invokevirtual 478, 3) := by decide +kernel
theorem dX12_total_167 : decode cX12_total 167 = .ok (.ireturn, 1) := by decide +kernel
theorem dX12_total_168 : decode cX12_total 168 = .ok (.aload_n 0, 1) := by decide +kernel
theorem dX12_total_169 : decode cX12_total 169 = .ok (.invokevirtual 481, 3) := by decide +kernel
theorem dX12_total_172 : decode cX12_total 172 = .ok (.ireturn, 1) := by decide +kernel
theorem dX12_total_173 : decode cX12_total 173 = .ok (.aload_n 0, 1) := by decide +kernel
theorem dX12_total_174 : decode cX12_total 174 = .ok (.invokevirtual 171, 3) := by decide +kernel
theorem dX12_total_177 : decode cX12_total 177 = .ok (.ireturn, 1) := by decide +kernel
theorem dX12_total_178 : decode cX12_total 178 = .ok (.aload_n 0, 1) := by decide +kernel
theorem dX12_total_179 : decode cX12_total 179 = .ok (.getfield 108, 3) := by decide +kernel
theorem dX12_total_182 : decode cX12_total 182 = .ok (.invokestatic 112, 3) := by decide +kernel
theorem dX12_total_185 : decode cX12_total 185 = .ok (.ireturn, 1) := by decide +kernel
theorem dX12_total_186 : decode cX12_total 186 = .ok (.aload_n 0, 1) := by decide +kernel
theorem dX12_total_187 : decode cX12_total 187 = .ok (.getfield 116, 3) := by decide +kernel
theorem dX12_total_190 : decode cX12_total 190 = .ok (.invokestatic 112, 3) := by decide +kernel
theorem dX12_total_193 : decode cX12_total 193 = .ok (.ireturn, 1) := by decide +kernel
theorem dX12_total_194 : decode cX12_total 194 = .ok (.aload_n 0, 1) := by decide +kernel
theorem dX12_total_195 : decode cX12_total 195 = .ok (.getfield 122, 3) := by decide +kernel
theorem dX12_total_198 : decode cX12_total 198 = .ok (.ireturn, 1) := by decide +kernel
theorem dX12_total_199 : decode cX12_total 199 = .ok (.aload_n 0, 1) := by decide +kernel
theorem dX12_total_200 : decode cX12_total 200 = .ok (.getfield 199, 3) := by decide +kernel
theorem dX12_total_203 : decode cX12_total 203 = .ok (.ireturn, 1) := by decide +kernel
theorem dX12_total_204 : decode cX12_total 204 = .ok (.aload_n 0, 1) := by decide +kernel
theorem dX12_total_205 : decode cX12_total 205 = .ok (.getfield 208, 3) := by decide +kernel
theorem dX12_total_208 : decode cX12_total 208 = .ok (.ireturn, 1) := by decide +kernel
theorem dX12_total_209 : decode cX12_total 209 = .ok (.aload_n 0, 1) := by decide +kernel
theorem dX12_total_210 : decode cX12_total 210 = .ok (.getfield 202, 3) := by decide +kernel
theorem dX12_total_213 : decode cX12_total 213 = .ok (.ireturn, 1) := by decide +kernel
theorem dX12_total_214 : decode cX12_total 214 = .ok (.aload_n 0, 1) := by decide +kernel
theorem dX12_total_215 : decode cX12_total 215 = .ok (.getfield 119, 3) := by decide +kernel
theorem dX12_total_218 : decode cX12_total 218 = .ok (.ireturn, 1) := by decide +kernel
theorem dX12_total_219 : decode cX12_total 219 = .ok (.aload_n 0, 1) := by decide +kernel
theorem dX12_total_220 : decode cX12_total 220 = .ok (.invokevirtual 174, 3) := by decide +kernel
theorem dX12_total_223 : decode cX12_total 223 = .ok (.ireturn, 1) := by decide +kernel
theorem dX12_total_224 : decode cX12_total 224 = .ok (.aload_n 0, 1) := by decide +kernel
theorem dX12_total_225 : decode cX12_total 225 = .ok (.getfield 161, 3) := by decide +kernel
theorem dX12_total_228 : decode cX12_total 228 = .ok (.ireturn, 1) := by decide +kernel
def J_X12_total_15 (b0 fu : Nat)   (σ : tM) : Option ((Int32) × tM) := some ((-9), σ)
def J_X12_total_132 (b0 fu : Nat)  (s0 : Int32) (σ : tM) : Option ((Int32) × tM) := some (s0, σ)
def J_X12_total_32 (b0 fu : Nat)  (x0 : Nat) (x1 : Int32) (σ : tM) : Option ((Int32) × tM) := if (x1) = (0) then ckO b0 (σ) (x0) 11 (if (tI (σ) (x0) 18) = (0) then J_X12_total_132 b0 fu   (0) (σ) else J_X12_total_132 b0 fu   (1) (σ)) else if (x1) = (1) then ckO b0 (σ) (x0) 11 (some (tI (σ) (x0) 16, σ)) else if (x1) = (2) then ckO b0 (σ) (x0) 11 (some (tI (σ) (x0) 20, σ)) else if (x1) = (3) then ckO b0 (σ) (x0) 11 (some (tI (σ) (x0) 21, σ)) else if (x1) = (4) then ckO b0 (σ) (x0) 11 (some (tI (σ) (x0) 19, σ)) else if (x1) = (5) then ckO b0 (σ) (x0) 11 (cll (m_X12_freeBlocks b0 fu (x0) (σ)) (fun v19 ρ20 => some (v19, ρ20))) else if (x1) = (6) then ckO b0 (σ) (x0) 11 (cll (m_X12_retiredBlocks b0 fu (x0) (σ)) (fun v24 ρ25 => some (v24, ρ25))) else if (x1) = (7) then ckO b0 (σ) (x0) 11 (cll (m_X12_dirtyBlocks b0 fu (x0) (σ)) (fun v29 ρ30 => some (v29, ρ30))) else if (x1) = (8) then ckO b0 (σ) (x0) 11 (cll (m_X12_freeNodes b0 fu (x0) (σ)) (fun v34 ρ35 => some (v34, ρ35))) else if (x1) = (9) then ckO b0 (σ) (x0) 11 (cll (m_X12_groupSize b0 fu (x0) (σ)) (fun v39 ρ40 => some (v39, ρ40))) else if (x1) = (10) then ckO b0 (σ) (x0) 11 (osm (tA (σ) (x0) 26) (fun a44 => cll (m_X12_count b0 fu (a44) (σ)) (fun v46 ρ47 => some (v46, ρ47)))) else if (x1) = (11) then ckO b0 (σ) (x0) 11 (osm (tA (σ) (x0) 27) (fun a51 => cll (m_X12_count b0 fu (a51) (σ)) (fun v53 ρ54 => some (v53, ρ54)))) else if (x1) = (12) then ckO b0 (σ) (x0) 11 (some (tI (σ) (x0) 28, σ)) else if (x1) = (13) then ckO b0 (σ) (x0) 11 (some (tI (σ) (x0) 29, σ)) else if (x1) = (14) then ckO b0 (σ) (x0) 11 (some (tI (σ) (x0) 30, σ)) else if (x1) = (15) then ckO b0 (σ) (x0) 11 (some (tI (σ) (x0) 31, σ)) else if (x1) = (16) then ckO b0 (σ) (x0) 11 (some (tI (σ) (x0) 32, σ)) else if (x1) = (17) then ckO b0 (σ) (x0) 11 (cll (m_X12_freeOfLog b0 fu (x0) (σ)) (fun v68 ρ69 => some (v68, ρ69))) else ckO b0 (σ) (x0) 11 (some (tI (σ) (x0) 33, σ))
def m_X12_total (b0 fu : Nat) (a0 : Nat) (p0 : Int32) (σ : tM) : Option ((Int32) × tM) := grw σ (ckO b0 (σ) (a0) 11 (if (p0) < (0) then J_X12_total_15 b0 fu    (sI (σ) (a0) 0 (0)) else if (p0) ≤ (18) then if (tI (sI (σ) (a0) 0 (0)) (a0) 18) = (0) then if (p0) < (5) then J_X12_total_32 b0 fu   (a0) (p0) (sI (σ) (a0) 0 (0)) else some ((-1), sI (σ) (a0) 0 (0)) else J_X12_total_32 b0 fu   (a0) (p0) (sI (σ) (a0) 0 (0)) else J_X12_total_15 b0 fu    (sI (σ) (a0) 0 (0))))
set_option maxRecDepth 100000 in
set_option maxHeartbeats 1000000 in
theorem j_X12_total_15 {p : Program} {l : Launch} {e : Env} {s : State} {m : MethodId} {args : Array Value} {below : List Frame} {meth : Method} {c : Code} {D : va_G} {aC : Nat → ClassId} {b0 fu : Nat} {σ0 τ : tM} {v : Int32}  (C : tCx p l s m args meth c yX12_total.cls cX12_total 2 (some .int) D aC b0 σ0) (htab : ∀ x ∈ c.exceptionTable.toList, False) (hin : meth.name = yX12_total.name)   {σ : tM} (hm : J_X12_total_15 b0 fu   σ = some (v, τ)) : tX p l e s m args below meth c 2 3 64 D aC b0 σ0 (.inl (some (.int v))) τ 15 [] [] σ := by
  unfold J_X12_total_15 at hm
  refine zx_bipush (v := (-9)) C dX12_total_15 (by decide) ?_
  obtain ⟨rfl, rfl⟩ := ret_e hm
  exact zx_iret C rfl rfl rfl dX12_total_17
set_option maxRecDepth 100000 in
set_option maxHeartbeats 1000000 in
theorem j_X12_total_132 {p : Program} {l : Launch} {e : Env} {s : State} {m : MethodId} {args : Array Value} {below : List Frame} {meth : Method} {c : Code} {D : va_G} {aC : Nat → ClassId} {b0 fu : Nat} {σ0 τ : tM} {v : Int32}  (C : tCx p l s m args meth c yX12_total.cls cX12_total 2 (some .int) D aC b0 σ0) (htab : ∀ x ∈ c.exceptionTable.toList, False) (hin : meth.name = yX12_total.name)  {s0 : Int32} {σ : tM} (hm : J_X12_total_132 b0 fu  s0 σ = some (v, τ)) : tX p l e s m args below meth c 2 3 64 D aC b0 σ0 (.inl (some (.int v))) τ 132 [] [.int (s0)] σ := by
  unfold J_X12_total_132 at hm
  obtain ⟨rfl, rfl⟩ := ret_e hm
  exact zx_iret C rfl rfl rfl dX12_total_132
set_option maxRecDepth 100000 in
set_option maxHeartbeats 1000000 in
theorem j_X12_total_32 {p : Program} {l : Launch} {e : Env} {s : State} {m : MethodId} {args : Array Value} {below : List Frame} {meth : Method} {c : Code} {D : va_G} {aC : Nat → ClassId} {b0 fu : Nat} {σ0 τ : tM} {v : Int32}  (C : tCx p l s m args meth c yX12_total.cls cX12_total 2 (some .int) D aC b0 σ0) (htab : ∀ x ∈ c.exceptionTable.toList, False) (hin : meth.name = yX12_total.name)  {x0 : Nat} {x1 : Int32} {σ : tM} (hm : J_X12_total_32 b0 fu  x0 x1 σ = some (v, τ)) : tX p l e s m args below meth c 2 3 64 D aC b0 σ0 (.inl (some (.int v))) τ 32 [(0, .ref (x0)), (1, .int (x1))] [] σ := by
  unfold J_X12_total_32 at hm
  refine zx_iload_n C dX12_total_32 1 rfl ?_
  rcases Classical.em ((x1) = (0)) with c33_0 | c33_0
  · replace hm := ip_e hm c33_0
    refine zx_tabIn (off := 87) C 120 dX12_total_33 (by rw [c33_0]; decide) (by rw [c33_0]; decide) (by rw [c33_0]; decide) (by decide) ?_
    refine zx_aload_n C dX12_total_120 0 rfl ?_
    obtain ⟨k6, i7, hm⟩ := ckO_e hm
    refine zx_get (j := 18) C tC_11 k6 i7 ⟨by decide, Or.inl W_6_237⟩ dX12_total_121 (.int (tI (σ) (x0) 18)) rfl ?_
    refine zx_if_eq C 131 dX12_total_124 (by decide) (fun c8 => ?_) (fun c8 => ?_)
    · replace hm := ip_e hm c8
      refine zx_iconst (v := 0) C dX12_total_131 (by decide) ?_
      exact zx_lv [] [] rfl (j_X12_total_132 C htab hin    hm)
    · replace hm := in_e hm c8
      refine zx_iconst (v := 1) C dX12_total_127 (by decide) ?_
      refine zx_goto C 132 dX12_total_128 (by decide) ?_
      exact zx_lv [] [] rfl (j_X12_total_132 C htab hin    hm)
  · replace hm := in_e hm c33_0
    rcases Classical.em ((x1) = (1)) with c33_1 | c33_1
    · replace hm := ip_e hm c33_1
      refine zx_tabIn (off := 100) C 133 dX12_total_33 (by rw [c33_1]; decide) (by rw [c33_1]; decide) (by rw [c33_1]; decide) (by decide) ?_
      refine zx_aload_n C dX12_total_133 0 rfl ?_
      obtain ⟨k9, i10, hm⟩ := ckO_e hm
      refine zx_get (j := 16) C tC_11 k9 i10 ⟨by decide, Or.inl W_6_235⟩ dX12_total_134 (.int (tI (σ) (x0) 16)) rfl ?_
      obtain ⟨rfl, rfl⟩ := ret_e hm
      exact zx_iret C rfl rfl rfl dX12_total_137
    · replace hm := in_e hm c33_1
      rcases Classical.em ((x1) = (2)) with c33_2 | c33_2
      · replace hm := ip_e hm c33_2
        refine zx_tabIn (off := 105) C 138 dX12_total_33 (by rw [c33_2]; decide) (by rw [c33_2]; decide) (by rw [c33_2]; decide) (by decide) ?_
        refine zx_aload_n C dX12_total_138 0 rfl ?_
        obtain ⟨k11, i12, hm⟩ := ckO_e hm
        refine zx_get (j := 20) C tC_11 k11 i12 ⟨by decide, Or.inl W_6_239⟩ dX12_total_139 (.int (tI (σ) (x0) 20)) rfl ?_
        obtain ⟨rfl, rfl⟩ := ret_e hm
        exact zx_iret C rfl rfl rfl dX12_total_142
      · replace hm := in_e hm c33_2
        rcases Classical.em ((x1) = (3)) with c33_3 | c33_3
        · replace hm := ip_e hm c33_3
          refine zx_tabIn (off := 110) C 143 dX12_total_33 (by rw [c33_3]; decide) (by rw [c33_3]; decide) (by rw [c33_3]; decide) (by decide) ?_
          refine zx_aload_n C dX12_total_143 0 rfl ?_
          obtain ⟨k13, i14, hm⟩ := ckO_e hm
          refine zx_get (j := 21) C tC_11 k13 i14 ⟨by decide, Or.inl W_7_0⟩ dX12_total_144 (.int (tI (σ) (x0) 21)) rfl ?_
          obtain ⟨rfl, rfl⟩ := ret_e hm
          exact zx_iret C rfl rfl rfl dX12_total_147
        · replace hm := in_e hm c33_3
          rcases Classical.em ((x1) = (4)) with c33_4 | c33_4
          · replace hm := ip_e hm c33_4
            refine zx_tabIn (off := 115) C 148 dX12_total_33 (by rw [c33_4]; decide) (by rw [c33_4]; decide) (by rw [c33_4]; decide) (by decide) ?_
            refine zx_aload_n C dX12_total_148 0 rfl ?_
            obtain ⟨k15, i16, hm⟩ := ckO_e hm
            refine zx_get (j := 19) C tC_11 k15 i16 ⟨by decide, Or.inl W_6_238⟩ dX12_total_149 (.int (tI (σ) (x0) 19)) rfl ?_
            obtain ⟨rfl, rfl⟩ := ret_e hm
            exact zx_iret C rfl rfl rfl dX12_total_152
          · replace hm := in_e hm c33_4
            rcases Classical.em ((x1) = (5)) with c33_5 | c33_5
            · replace hm := ip_e hm c33_5
              refine zx_tabIn (off := 120) C 153 dX12_total_33 (by rw [c33_5]; decide) (by rw [c33_5]; decide) (by rw [c33_5]; decide) (by decide) ?_
              refine zx_aload_n C dX12_total_153 0 rfl ?_
              obtain ⟨k17, i18, hm⟩ := ckO_e hm
              obtain ⟨v19, ρ20, h21, hm⟩ := cll_e hm
              refine zx_callV (σ := σ) C [] tC_11 k17 i18 Y_X12_freeBlocks W_8_91 W_8_93 Wp_92 (c_X12_freeBlocks h21) (by decide) (by decide) rfl (Nat.le_of_ble_eq_true rfl) dX12_total_154 rfl ?_
              obtain ⟨rfl, rfl⟩ := ret_e hm
              exact zx_iret C rfl rfl rfl dX12_total_157
            · replace hm := in_e hm c33_5
              rcases Classical.em ((x1) = (6)) with c33_6 | c33_6
              · replace hm := ip_e hm c33_6
                refine zx_tabIn (off := 125) C 158 dX12_total_33 (by rw [c33_6]; decide) (by rw [c33_6]; decide) (by rw [c33_6]; decide) (by decide) ?_
                refine zx_aload_n C dX12_total_158 0 rfl ?_
                obtain ⟨k22, i23, hm⟩ := ckO_e hm
                obtain ⟨v24, ρ25, h26, hm⟩ := cll_e hm
                refine zx_callV (σ := σ) C [] tC_11 k22 i23 Y_X12_retiredBlocks W_9_118 W_9_120 Wp_126 (c_X12_retiredBlocks h26) (by decide) (by decide) rfl (Nat.le_of_ble_eq_true rfl) dX12_total_159 rfl ?_
                obtain ⟨rfl, rfl⟩ := ret_e hm
                exact zx_iret C rfl rfl rfl dX12_total_162
              · replace hm := in_e hm c33_6
                rcases Classical.em ((x1) = (7)) with c33_7 | c33_7
                · replace hm := ip_e hm c33_7
                  refine zx_tabIn (off := 130) C 163 dX12_total_33 (by rw [c33_7]; decide) (by rw [c33_7]; decide) (by rw [c33_7]; decide) (by decide) ?_
                  refine zx_aload_n C dX12_total_163 0 rfl ?_
                  obtain ⟨k27, i28, hm⟩ := ckO_e hm
                  obtain ⟨v29, ρ30, h31, hm⟩ := cll_e hm
                  refine zx_callV (σ := σ) C [] tC_11 k27 i28 Y_X12_dirtyBlocks W_9_122 W_9_124 Wp_127 (c_X12_dirtyBlocks h31) (by decide) (by decide) rfl (Nat.le_of_ble_eq_true rfl) dX12_total_164 rfl ?_
                  obtain ⟨rfl, rfl⟩ := ret_e hm
                  exact zx_iret C rfl rfl rfl dX12_total_167
                · replace hm := in_e hm c33_7
                  rcases Classical.em ((x1) = (8)) with c33_8 | c33_8
                  · replace hm := ip_e hm c33_8
                    refine zx_tabIn (off := 135) C 168 dX12_total_33 (by rw [c33_8]; decide) (by rw [c33_8]; decide) (by rw [c33_8]; decide) (by decide) ?_
                    refine zx_aload_n C dX12_total_168 0 rfl ?_
                    obtain ⟨k32, i33, hm⟩ := ckO_e hm
                    obtain ⟨v34, ρ35, h36, hm⟩ := cll_e hm
                    refine zx_callV (σ := σ) C [] tC_11 k32 i33 Y_X12_freeNodes W_9_126 W_9_128 Wp_128 (c_X12_freeNodes h36) (by decide) (by decide) rfl (Nat.le_of_ble_eq_true rfl) dX12_total_169 rfl ?_
                    obtain ⟨rfl, rfl⟩ := ret_e hm
                    exact zx_iret C rfl rfl rfl dX12_total_172
                  · replace hm := in_e hm c33_8
                    rcases Classical.em ((x1) = (9)) with c33_9 | c33_9
                    · replace hm := ip_e hm c33_9
                      refine zx_tabIn (off := 140) C 173 dX12_total_33 (by rw [c33_9]; decide) (by rw [c33_9]; decide) (by rw [c33_9]; decide) (by decide) ?_
                      refine zx_aload_n C dX12_total_173 0 rfl ?_
                      obtain ⟨k37, i38, hm⟩ := ckO_e hm
                      obtain ⟨v39, ρ40, h41, hm⟩ := cll_e hm
                      refine zx_callV (σ := σ) C [] tC_11 k37 i38 Y_X12_groupSize W_7_189 W_7_191 Wp_59 (c_X12_groupSize h41) (by decide) (by decide) rfl (Nat.le_of_ble_eq_true rfl) dX12_total_174 rfl ?_
                      obtain ⟨rfl, rfl⟩ := ret_e hm
                      exact zx_iret C rfl rfl rfl dX12_total_177
                    · replace hm := in_e hm c33_9
                      rcases Classical.em ((x1) = (10)) with c33_10 | c33_10
                      · replace hm := ip_e hm c33_10
                        refine zx_tabIn (off := 145) C 178 dX12_total_33 (by rw [c33_10]; decide) (by rw [c33_10]; decide) (by rw [c33_10]; decide) (by decide) ?_
                        refine zx_aload_n C dX12_total_178 0 rfl ?_
                        obtain ⟨k42, i43, hm⟩ := ckO_e hm
                        obtain ⟨a44, h45, hm⟩ := osm_e hm
                        refine zx_get (j := 26) C tC_11 k42 i43 ⟨by decide, Or.inl W_7_5⟩ dX12_total_179 (.ref a44) (rf_s h45) ?_
                        obtain ⟨v46, ρ47, h48, hm⟩ := cll_e hm
                        refine zx_callS (σ := σ) C [.ref (a44)] Y_X12_count W_7_193 W_7_194 (c_X12_count h48) (by decide) (by decide) rfl (Nat.le_of_ble_eq_true rfl) dX12_total_182 rfl ?_
                        obtain ⟨rfl, rfl⟩ := ret_e hm
                        exact zx_iret C rfl rfl rfl dX12_total_185
                      · replace hm := in_e hm c33_10
                        rcases Classical.em ((x1) = (11)) with c33_11 | c33_11
                        · replace hm := ip_e hm c33_11
                          refine zx_tabIn (off := 153) C 186 dX12_total_33 (by rw [c33_11]; decide) (by rw [c33_11]; decide) (by rw [c33_11]; decide) (by decide) ?_
                          refine zx_aload_n C dX12_total_186 0 rfl ?_
                          obtain ⟨k49, i50, hm⟩ := ckO_e hm
                          obtain ⟨a51, h52, hm⟩ := osm_e hm
                          refine zx_get (j := 27) C tC_11 k49 i50 ⟨by decide, Or.inl W_7_6⟩ dX12_total_187 (.ref a51) (rf_s h52) ?_
                          obtain ⟨v53, ρ54, h55, hm⟩ := cll_e hm
                          refine zx_callS (σ := σ) C [.ref (a51)] Y_X12_count W_7_193 W_7_194 (c_X12_count h55) (by decide) (by decide) rfl (Nat.le_of_ble_eq_true rfl) dX12_total_190 rfl ?_
                          obtain ⟨rfl, rfl⟩ := ret_e hm
                          exact zx_iret C rfl rfl rfl dX12_total_193
                        · replace hm := in_e hm c33_11
                          rcases Classical.em ((x1) = (12)) with c33_12 | c33_12
                          · replace hm := ip_e hm c33_12
                            refine zx_tabIn (off := 161) C 194 dX12_total_33 (by rw [c33_12]; decide) (by rw [c33_12]; decide) (by rw [c33_12]; decide) (by decide) ?_
                            refine zx_aload_n C dX12_total_194 0 rfl ?_
                            obtain ⟨k56, i57, hm⟩ := ckO_e hm
                            refine zx_get (j := 28) C tC_11 k56 i57 ⟨by decide, Or.inl W_7_7⟩ dX12_total_195 (.int (tI (σ) (x0) 28)) rfl ?_
                            obtain ⟨rfl, rfl⟩ := ret_e hm
                            exact zx_iret C rfl rfl rfl dX12_total_198
                          · replace hm := in_e hm c33_12
                            rcases Classical.em ((x1) = (13)) with c33_13 | c33_13
                            · replace hm := ip_e hm c33_13
                              refine zx_tabIn (off := 166) C 199 dX12_total_33 (by rw [c33_13]; decide) (by rw [c33_13]; decide) (by rw [c33_13]; decide) (by decide) ?_
                              refine zx_aload_n C dX12_total_199 0 rfl ?_
                              obtain ⟨k58, i59, hm⟩ := ckO_e hm
                              refine zx_get (j := 29) C tC_11 k58 i59 ⟨by decide, Or.inl W_7_8⟩ dX12_total_200 (.int (tI (σ) (x0) 29)) rfl ?_
                              obtain ⟨rfl, rfl⟩ := ret_e hm
                              exact zx_iret C rfl rfl rfl dX12_total_203
                            · replace hm := in_e hm c33_13
                              rcases Classical.em ((x1) = (14)) with c33_14 | c33_14
                              · replace hm := ip_e hm c33_14
                                refine zx_tabIn (off := 171) C 204 dX12_total_33 (by rw [c33_14]; decide) (by rw [c33_14]; decide) (by rw [c33_14]; decide) (by decide) ?_
                                refine zx_aload_n C dX12_total_204 0 rfl ?_
                                obtain ⟨k60, i61, hm⟩ := ckO_e hm
                                refine zx_get (j := 30) C tC_11 k60 i61 ⟨by decide, Or.inl W_7_9⟩ dX12_total_205 (.int (tI (σ) (x0) 30)) rfl ?_
                                obtain ⟨rfl, rfl⟩ := ret_e hm
                                exact zx_iret C rfl rfl rfl dX12_total_208
                              · replace hm := in_e hm c33_14
                                rcases Classical.em ((x1) = (15)) with c33_15 | c33_15
                                · replace hm := ip_e hm c33_15
                                  refine zx_tabIn (off := 176) C 209 dX12_total_33 (by rw [c33_15]; decide) (by rw [c33_15]; decide) (by rw [c33_15]; decide) (by decide) ?_
                                  refine zx_aload_n C dX12_total_209 0 rfl ?_
                                  obtain ⟨k62, i63, hm⟩ := ckO_e hm
                                  refine zx_get (j := 31) C tC_11 k62 i63 ⟨by decide, Or.inl W_7_10⟩ dX12_total_210 (.int (tI (σ) (x0) 31)) rfl ?_
                                  obtain ⟨rfl, rfl⟩ := ret_e hm
                                  exact zx_iret C rfl rfl rfl dX12_total_213
                                · replace hm := in_e hm c33_15
                                  rcases Classical.em ((x1) = (16)) with c33_16 | c33_16
                                  · replace hm := ip_e hm c33_16
                                    refine zx_tabIn (off := 181) C 214 dX12_total_33 (by rw [c33_16]; decide) (by rw [c33_16]; decide) (by rw [c33_16]; decide) (by decide) ?_
                                    refine zx_aload_n C dX12_total_214 0 rfl ?_
                                    obtain ⟨k64, i65, hm⟩ := ckO_e hm
                                    refine zx_get (j := 32) C tC_11 k64 i65 ⟨by decide, Or.inl W_7_11⟩ dX12_total_215 (.int (tI (σ) (x0) 32)) rfl ?_
                                    obtain ⟨rfl, rfl⟩ := ret_e hm
                                    exact zx_iret C rfl rfl rfl dX12_total_218
                                  · replace hm := in_e hm c33_16
                                    rcases Classical.em ((x1) = (17)) with c33_17 | c33_17
                                    · replace hm := ip_e hm c33_17
                                      refine zx_tabIn (off := 186) C 219 dX12_total_33 (by rw [c33_17]; decide) (by rw [c33_17]; decide) (by rw [c33_17]; decide) (by decide) ?_
                                      refine zx_aload_n C dX12_total_219 0 rfl ?_
                                      obtain ⟨k66, i67, hm⟩ := ckO_e hm
                                      obtain ⟨v68, ρ69, h70, hm⟩ := cll_e hm
                                      refine zx_callV (σ := σ) C [] tC_11 k66 i67 Y_X12_freeOfLog W_7_200 W_7_202 Wp_61 (c_X12_freeOfLog h70) (by decide) (by decide) rfl (Nat.le_of_ble_eq_true rfl) dX12_total_220 rfl ?_
                                      obtain ⟨rfl, rfl⟩ := ret_e hm
                                      exact zx_iret C rfl rfl rfl dX12_total_223
                                    · replace hm := in_e hm c33_17
                                      have g33_0 : (x1).toInt ≠ 0 := fun e9 => c33_0 (Int32.toInt_inj.mp (e9.trans (by decide)))
                                      have g33_1 : (x1).toInt ≠ 1 := fun e9 => c33_1 (Int32.toInt_inj.mp (e9.trans (by decide)))
                                      have g33_2 : (x1).toInt ≠ 2 := fun e9 => c33_2 (Int32.toInt_inj.mp (e9.trans (by decide)))
                                      have g33_3 : (x1).toInt ≠ 3 := fun e9 => c33_3 (Int32.toInt_inj.mp (e9.trans (by decide)))
                                      have g33_4 : (x1).toInt ≠ 4 := fun e9 => c33_4 (Int32.toInt_inj.mp (e9.trans (by decide)))
                                      have g33_5 : (x1).toInt ≠ 5 := fun e9 => c33_5 (Int32.toInt_inj.mp (e9.trans (by decide)))
                                      have g33_6 : (x1).toInt ≠ 6 := fun e9 => c33_6 (Int32.toInt_inj.mp (e9.trans (by decide)))
                                      have g33_7 : (x1).toInt ≠ 7 := fun e9 => c33_7 (Int32.toInt_inj.mp (e9.trans (by decide)))
                                      have g33_8 : (x1).toInt ≠ 8 := fun e9 => c33_8 (Int32.toInt_inj.mp (e9.trans (by decide)))
                                      have g33_9 : (x1).toInt ≠ 9 := fun e9 => c33_9 (Int32.toInt_inj.mp (e9.trans (by decide)))
                                      have g33_10 : (x1).toInt ≠ 10 := fun e9 => c33_10 (Int32.toInt_inj.mp (e9.trans (by decide)))
                                      have g33_11 : (x1).toInt ≠ 11 := fun e9 => c33_11 (Int32.toInt_inj.mp (e9.trans (by decide)))
                                      have g33_12 : (x1).toInt ≠ 12 := fun e9 => c33_12 (Int32.toInt_inj.mp (e9.trans (by decide)))
                                      have g33_13 : (x1).toInt ≠ 13 := fun e9 => c33_13 (Int32.toInt_inj.mp (e9.trans (by decide)))
                                      have g33_14 : (x1).toInt ≠ 14 := fun e9 => c33_14 (Int32.toInt_inj.mp (e9.trans (by decide)))
                                      have g33_15 : (x1).toInt ≠ 15 := fun e9 => c33_15 (Int32.toInt_inj.mp (e9.trans (by decide)))
                                      have g33_16 : (x1).toInt ≠ 16 := fun e9 => c33_16 (Int32.toInt_inj.mp (e9.trans (by decide)))
                                      have g33_17 : (x1).toInt ≠ 17 := fun e9 => c33_17 (Int32.toInt_inj.mp (e9.trans (by decide)))
                                      refine zx_tabOut C 224 dX12_total_33 (by omega) (by decide) ?_
                                      refine zx_aload_n C dX12_total_224 0 rfl ?_
                                      obtain ⟨k71, i72, hm⟩ := ckO_e hm
                                      refine zx_get (j := 33) C tC_11 k71 i72 ⟨by decide, Or.inl W_7_12⟩ dX12_total_225 (.int (tI (σ) (x0) 33)) rfl ?_
                                      obtain ⟨rfl, rfl⟩ := ret_e hm
                                      exact zx_iret C rfl rfl rfl dX12_total_228
set_option maxRecDepth 100000 in
set_option maxHeartbeats 1000000 in
theorem c_X12_total {l : Launch} {D : va_G} {aC : Nat → ClassId} {b0 fu : Nat} {a0 : Nat} {p0 : Int32} {σ τ : tM} {v : Int32} (hm : m_X12_total b0 fu a0 p0 σ = some (v, τ)) : tMt l D aC b0 yX12_total (Cond.code yX12_total cX12_total 2 (some .int)) 3 64 [.ref (a0), .int (p0)] σ (.inl (some (.int v))) τ := by
  unfold m_X12_total at hm
  obtain ⟨hg, hm⟩ := grw_e hm
  refine tMt_of (n := 0) rfl (Nat.le_of_ble_eq_true rfl) hg ?_
  intro p e s m below meth c C htab hin
  refine zx_lv [0, 1] [(0, .ref (a0)), (1, .int (p0))] rfl ?_
  refine zx_aload_n C dX12_total_0 0 rfl ?_
  refine zx_iconst (v := 0) C dX12_total_1 (by decide) ?_
  obtain ⟨k1, i2, hm⟩ := ckO_e hm
  refine zx_put (j := 0) (ρ := sI (σ) (a0) 0 (0)) C tC_11 k1 i2 ⟨by decide, Or.inl W_6_220⟩ rfl rfl rfl (sI_ok (fun _ => rfl)) dX12_total_2 ?_
  refine zx_iload_n C dX12_total_5 1 rfl ?_
  refine zx_if_lt C 15 dX12_total_6 (by decide) (fun c3 => ?_) (fun c3 => ?_)
  · replace hm := ip_e hm c3
    exact zx_lv [] [] rfl (j_X12_total_15 C htab hin    hm)
  · replace hm := in_e hm c3
    refine zx_iload_n C dX12_total_9 1 rfl ?_
    refine zx_bipush (v := 18) C dX12_total_10 (by decide) ?_
    refine zx_icmp_le C 18 dX12_total_12 (by decide) (fun c4 => ?_) (fun c4 => ?_)
    · replace hm := ip_e hm c4
      refine zx_aload_n C dX12_total_18 0 rfl ?_
      refine zx_get (j := 18) C tC_11 k1 i2 ⟨by decide, Or.inl W_6_237⟩ dX12_total_19 (.int (tI (sI (σ) (a0) 0 (0)) (a0) 18)) rfl ?_
      refine zx_if_ne C 32 dX12_total_22 (by decide) (fun c5 => ?_) (fun c5 => ?_)
      · replace hm := in_e hm c5
        exact zx_lv [0, 1] [(0, .ref (a0)), (1, .int (p0))] rfl (j_X12_total_32 C htab hin    hm)
      · replace hm := ip_e hm c5
        refine zx_iload_n C dX12_total_25 1 rfl ?_
        refine zx_iconst (v := 5) C dX12_total_26 (by decide) ?_
        refine zx_icmp_lt C 32 dX12_total_27 (by decide) (fun c73 => ?_) (fun c73 => ?_)
        · replace hm := ip_e hm c73
          exact zx_lv [0, 1] [(0, .ref (a0)), (1, .int (p0))] rfl (j_X12_total_32 C htab hin    hm)
        · replace hm := in_e hm c73
          refine zx_iconst (v := (-1)) C dX12_total_30 (by decide) ?_
          obtain ⟨rfl, rfl⟩ := ret_e hm
          exact zx_iret C rfl rfl rfl dX12_total_31
    · replace hm := in_e hm c4
      exact zx_lv [] [] rfl (j_X12_total_15 C htab hin    hm)
abbrev cJ7_fill_53178 : ByteArray := prog_22_method_103_code
def yJ7_fill_53178 : MethodName := ⟨"java/util/Arrays", "fill", "([II)V"⟩
theorem Y_J7_fill_53178 : tY yJ7_fill_53178 cJ7_fill_53178 4 none 2 := ⟨W_2_212, W_1_12, ⟨by decide +kernel, by decide +kernel⟩, by decide +kernel⟩
theorem dJ7_fill_53178_0 : decode cJ7_fill_53178 0 = .ok (.iconst 0, 1) := by decide +kernel
theorem dJ7_fill_53178_1 : decode cJ7_fill_53178 1 = .ok (.istore_n 2, 1) := by decide +kernel
theorem dJ7_fill_53178_2 : decode cJ7_fill_53178 2 = .ok (.aload_n 0, 1) := by decide +kernel
theorem dJ7_fill_53178_3 : decode cJ7_fill_53178 3 = .ok (.arraylength, 1) := by decide +kernel
theorem dJ7_fill_53178_4 : decode cJ7_fill_53178 4 = .ok (.istore_n 3, 1) := by decide +kernel
theorem dJ7_fill_53178_5 : decode cJ7_fill_53178 5 = .ok (.iload_n 2, 1) := by decide +kernel
theorem dJ7_fill_53178_6 : decode cJ7_fill_53178 6 = .ok (.iload_n 3, 1) := by decide +kernel
theorem dJ7_fill_53178_7 : decode cJ7_fill_53178 7 = .ok (.if_icmp .ge 13, 3) := by decide +kernel
theorem dJ7_fill_53178_10 : decode cJ7_fill_53178 10 = .ok (.aload_n 0, 1) := by decide +kernel
theorem dJ7_fill_53178_11 : decode cJ7_fill_53178 11 = .ok (.iload_n 2, 1) := by decide +kernel
theorem dJ7_fill_53178_12 : decode cJ7_fill_53178 12 = .ok (.iload_n 1, 1) := by decide +kernel
theorem dJ7_fill_53178_13 : decode cJ7_fill_53178 13 = .ok (.iastore, 1) := by decide +kernel
theorem dJ7_fill_53178_14 : decode cJ7_fill_53178 14 = .ok (.iinc 2 1, 3) := by decide +kernel
theorem dJ7_fill_53178_17 : decode cJ7_fill_53178 17 = .ok (.goto (-12), 3) := by decide +kernel
theorem dJ7_fill_53178_20 : decode cJ7_fill_53178 20 = .ok (.return_, 1) := by decide +kernel
def L_J7_fill_53178_5 (b0 fu : Nat)  : Nat → Nat → Int32 → Int32 → Int32 → tM → Option ((Unit) × tM)
  | 0, _, _, _, _, _ => none
  | n + 1, x0, x1, x2, x3, σ => ltb (L_J7_fill_53178_5 b0 fu  n) (fun rc5 => if (x3) ≤ (x2) then some ((), σ) else ckR b0 (σ) (x0) 0 (fun n8 => ckI (x2) (n8) (ltb ((x2) + Int32.ofInt 1) (fun y10 => rc5 (x0) (x1) (y10) (x3) (sI (σ) (x0) ((x2).toNatClampNeg) (x1))))))
def m_J7_fill_53178 (b0 fu : Nat) (p0 : Nat) (p1 : Int32) (σ : tM) : Option ((Unit) × tM) := grw σ (ckR b0 (σ) (p0) 0 (fun n3 => ltb ((nI n3 : Int32)) (fun y4 => L_J7_fill_53178_5 b0 fu  (fu) (p0) (p1) (0) (y4) (σ))))
set_option maxRecDepth 100000 in
set_option maxHeartbeats 1000000 in
theorem l_J7_fill_53178_5 {p : Program} {l : Launch} {e : Env} {s : State} {m : MethodId} {args : Array Value} {below : List Frame} {meth : Method} {c : Code} {D : va_G} {aC : Nat → ClassId} {b0 fu : Nat} {σ0 τ : tM} {v : Unit}  (C : tCx p l s m args meth c yJ7_fill_53178.cls cJ7_fill_53178 4 none D aC b0 σ0) (htab : ∀ x ∈ c.exceptionTable.toList, False) (hin : meth.name = yJ7_fill_53178.name)  : ∀ (n : Nat) (x0 : Nat) (x1 : Int32) (x2 : Int32) (x3 : Int32) (σ : tM), L_J7_fill_53178_5 b0 fu  n x0 x1 x2 x3 σ = some (v, τ) → tX p l e s m args below meth c 4 0 0 D aC b0 σ0 (.inl none) τ 5 [(0, .ref (x0)), (1, .int (x1)), (2, .int (x2)), (3, .int (x3))] [] σ := by
  intro n
  induction n with
  | zero => intro x0 x1 x2 x3 σ hm; unfold L_J7_fill_53178_5 at hm; cases hm
  | succ n ih =>
    intro x0 x1 x2 x3 σ hm
    unfold L_J7_fill_53178_5 at hm
    obtain ⟨rc5, hrc⟩ : ∃ z, z = L_J7_fill_53178_5 b0 fu  n := ⟨_, rfl⟩
    replace hm := ltb_e hm hrc
    rw [← hrc] at ih
    have hrc5 := ih
    clear ih hrc
    refine zx_iload_n C dJ7_fill_53178_5 2 rfl ?_
    refine zx_iload_n C dJ7_fill_53178_6 3 rfl ?_
    refine zx_icmp_ge C 20 dJ7_fill_53178_7 (by decide) (fun c5 => ?_) (fun c5 => ?_)
    · replace hm := ip_e hm c5
      obtain ⟨rfl, rfl⟩ := ret_e hm
      exact zx_vret C rfl rfl rfl dJ7_fill_53178_20
    · replace hm := in_e hm c5
      refine zx_aload_n C dJ7_fill_53178_10 0 rfl ?_
      refine zx_iload_n C dJ7_fill_53178_11 2 rfl ?_
      refine zx_iload_n C dJ7_fill_53178_12 1 rfl ?_
      obtain ⟨n8, k6, i7, hm⟩ := ckR_e hm
      obtain ⟨h9, hm⟩ := ckI_e hm
      refine zx_iast C k6 i7 h9 dJ7_fill_53178_13 ?_
      obtain ⟨y10, hy10⟩ : ∃ z : Int32, z = (x2) + Int32.ofInt 1 := ⟨_, rfl⟩
      replace hm := ltb_e hm hy10
      refine zx_iinc C [(2, .int (y10)), (0, .ref (x0)), (1, .int (x1)), (3, .int (x3))] dJ7_fill_53178_14 2 rfl hy10.symm (by decide) rfl ?_
      refine zx_goto C 5 dJ7_fill_53178_17 (by decide) ?_
      exact zx_lv [1, 2, 0, 3] [(0, .ref (x0)), (1, .int (x1)), (2, .int (y10)), (3, .int (x3))] rfl (hrc5 _ _ _ _ _ hm)
set_option maxRecDepth 100000 in
set_option maxHeartbeats 1000000 in
theorem c_J7_fill_53178 {l : Launch} {D : va_G} {aC : Nat → ClassId} {b0 fu : Nat} {p0 : Nat} {p1 : Int32} {σ τ : tM} {v : Unit} (hm : m_J7_fill_53178 b0 fu p0 p1 σ = some (v, τ)) : tMt l D aC b0 yJ7_fill_53178 (Cond.code yJ7_fill_53178 cJ7_fill_53178 4 none) 0 0 [.ref (p0), .int (p1)] σ (.inl none) τ := by
  unfold m_J7_fill_53178 at hm
  obtain ⟨hg, hm⟩ := grw_e hm
  refine tMt_of (n := 0) rfl (Nat.le_of_ble_eq_true rfl) hg ?_
  intro p e s m below meth c C htab hin
  refine zx_lv [0, 1] [(0, .ref (p0)), (1, .int (p1))] rfl ?_
  refine zx_iconst (v := 0) C dJ7_fill_53178_0 (by decide) ?_
  refine zx_istore_n C [(2, .int (0)), (0, .ref (p0)), (1, .int (p1))] dJ7_fill_53178_1 rfl (by decide) rfl ?_
  refine zx_aload_n C dJ7_fill_53178_2 1 rfl ?_
  obtain ⟨n3, k1, i2, hm⟩ := ckR_e hm
  refine zx_alen C k1 (by decide) i2 dJ7_fill_53178_3 ?_
  refine zx_topi (fun y4 hy4 => ?_)
  replace hm := ltb_e hm hy4
  refine zx_istore_n C [(3, .int (y4)), (2, .int (0)), (0, .ref (p0)), (1, .int (p1))] dJ7_fill_53178_4 rfl (by decide) rfl ?_
  exact zx_lv [2, 3, 1, 0] [(0, .ref (p0)), (1, .int (p1)), (2, .int (0)), (3, .int (y4))] rfl (l_J7_fill_53178_5 C htab hin  _ _ _ _ _ _ hm)
abbrev cJ7_fill_031fb : ByteArray := prog_22_method_109_code
def yJ7_fill_031fb : MethodName := ⟨"java/util/Arrays", "fill", "([BB)V"⟩
theorem Y_J7_fill_031fb : tY yJ7_fill_031fb cJ7_fill_031fb 4 none 2 := ⟨W_2_179, W_1_12, ⟨by decide +kernel, by decide +kernel⟩, by decide +kernel⟩
theorem dJ7_fill_031fb_0 : decode cJ7_fill_031fb 0 = .ok (.iconst 0, 1) := by decide +kernel
theorem dJ7_fill_031fb_1 : decode cJ7_fill_031fb 1 = .ok (.istore_n 2, 1) := by decide +kernel
theorem dJ7_fill_031fb_2 : decode cJ7_fill_031fb 2 = .ok (.aload_n 0, 1) := by decide +kernel
theorem dJ7_fill_031fb_3 : decode cJ7_fill_031fb 3 = .ok (.arraylength, 1) := by decide +kernel
theorem dJ7_fill_031fb_4 : decode cJ7_fill_031fb 4 = .ok (.istore_n 3, 1) := by decide +kernel
theorem dJ7_fill_031fb_5 : decode cJ7_fill_031fb 5 = .ok (.iload_n 2, 1) := by decide +kernel
theorem dJ7_fill_031fb_6 : decode cJ7_fill_031fb 6 = .ok (.iload_n 3, 1) := by decide +kernel
theorem dJ7_fill_031fb_7 : decode cJ7_fill_031fb 7 = .ok (.if_icmp .ge 13, 3) := by decide +kernel
theorem dJ7_fill_031fb_10 : decode cJ7_fill_031fb 10 = .ok (.aload_n 0, 1) := by decide +kernel
theorem dJ7_fill_031fb_11 : decode cJ7_fill_031fb 11 = .ok (.iload_n 2, 1) := by decide +kernel
theorem dJ7_fill_031fb_12 : decode cJ7_fill_031fb 12 = .ok (.iload_n 1, 1) := by decide +kernel
theorem dJ7_fill_031fb_13 : decode cJ7_fill_031fb 13 = .ok (.bastore, 1) := by decide +kernel
theorem dJ7_fill_031fb_14 : decode cJ7_fill_031fb 14 = .ok (.iinc 2 1, 3) := by decide +kernel
theorem dJ7_fill_031fb_17 : decode cJ7_fill_031fb 17 = .ok (.goto (-12), 3) := by decide +kernel
theorem dJ7_fill_031fb_20 : decode cJ7_fill_031fb 20 = .ok (.return_, 1) := by decide +kernel
def L_J7_fill_031fb_5 (b0 fu : Nat)  : Nat → Nat → Int32 → Int32 → Int32 → tM → Option ((Unit) × tM)
  | 0, _, _, _, _, _ => none
  | n + 1, x0, x1, x2, x3, σ => ltb (L_J7_fill_031fb_5 b0 fu  n) (fun rc5 => if (x3) ≤ (x2) then some ((), σ) else ckR b0 (σ) (x0) 1 (fun n8 => ckI (x2) (n8) (ltb ((x2) + Int32.ofInt 1) (fun y10 => rc5 (x0) (x1) (y10) (x3) (sI (σ) (x0) ((x2).toNatClampNeg) (vp_nar .byte (x1)))))))
def m_J7_fill_031fb (b0 fu : Nat) (p0 : Nat) (p1 : Int32) (σ : tM) : Option ((Unit) × tM) := grw σ (ckR b0 (σ) (p0) 1 (fun n3 => ltb ((nI n3 : Int32)) (fun y4 => L_J7_fill_031fb_5 b0 fu  (fu) (p0) (p1) (0) (y4) (σ))))
set_option maxRecDepth 100000 in
set_option maxHeartbeats 1000000 in
theorem l_J7_fill_031fb_5 {p : Program} {l : Launch} {e : Env} {s : State} {m : MethodId} {args : Array Value} {below : List Frame} {meth : Method} {c : Code} {D : va_G} {aC : Nat → ClassId} {b0 fu : Nat} {σ0 τ : tM} {v : Unit}  (C : tCx p l s m args meth c yJ7_fill_031fb.cls cJ7_fill_031fb 4 none D aC b0 σ0) (htab : ∀ x ∈ c.exceptionTable.toList, False) (hin : meth.name = yJ7_fill_031fb.name)  : ∀ (n : Nat) (x0 : Nat) (x1 : Int32) (x2 : Int32) (x3 : Int32) (σ : tM), L_J7_fill_031fb_5 b0 fu  n x0 x1 x2 x3 σ = some (v, τ) → tX p l e s m args below meth c 4 0 0 D aC b0 σ0 (.inl none) τ 5 [(0, .ref (x0)), (1, .int (x1)), (2, .int (x2)), (3, .int (x3))] [] σ := by
  intro n
  induction n with
  | zero => intro x0 x1 x2 x3 σ hm; unfold L_J7_fill_031fb_5 at hm; cases hm
  | succ n ih =>
    intro x0 x1 x2 x3 σ hm
    unfold L_J7_fill_031fb_5 at hm
    obtain ⟨rc5, hrc⟩ : ∃ z, z = L_J7_fill_031fb_5 b0 fu  n := ⟨_, rfl⟩
    replace hm := ltb_e hm hrc
    rw [← hrc] at ih
    have hrc5 := ih
    clear ih hrc
    refine zx_iload_n C dJ7_fill_031fb_5 2 rfl ?_
    refine zx_iload_n C dJ7_fill_031fb_6 3 rfl ?_
    refine zx_icmp_ge C 20 dJ7_fill_031fb_7 (by decide) (fun c5 => ?_) (fun c5 => ?_)
    · replace hm := ip_e hm c5
      obtain ⟨rfl, rfl⟩ := ret_e hm
      exact zx_vret C rfl rfl rfl dJ7_fill_031fb_20
    · replace hm := in_e hm c5
      refine zx_aload_n C dJ7_fill_031fb_10 0 rfl ?_
      refine zx_iload_n C dJ7_fill_031fb_11 2 rfl ?_
      refine zx_iload_n C dJ7_fill_031fb_12 1 rfl ?_
      obtain ⟨n8, k6, i7, hm⟩ := ckR_e hm
      obtain ⟨h9, hm⟩ := ckI_e hm
      refine zx_bast C k6 i7 h9 dJ7_fill_031fb_13 ?_
      obtain ⟨y10, hy10⟩ : ∃ z : Int32, z = (x2) + Int32.ofInt 1 := ⟨_, rfl⟩
      replace hm := ltb_e hm hy10
      refine zx_iinc C [(2, .int (y10)), (0, .ref (x0)), (1, .int (x1)), (3, .int (x3))] dJ7_fill_031fb_14 2 rfl hy10.symm (by decide) rfl ?_
      refine zx_goto C 5 dJ7_fill_031fb_17 (by decide) ?_
      exact zx_lv [1, 2, 0, 3] [(0, .ref (x0)), (1, .int (x1)), (2, .int (y10)), (3, .int (x3))] rfl (hrc5 _ _ _ _ _ hm)
set_option maxRecDepth 100000 in
set_option maxHeartbeats 1000000 in
theorem c_J7_fill_031fb {l : Launch} {D : va_G} {aC : Nat → ClassId} {b0 fu : Nat} {p0 : Nat} {p1 : Int32} {σ τ : tM} {v : Unit} (hm : m_J7_fill_031fb b0 fu p0 p1 σ = some (v, τ)) : tMt l D aC b0 yJ7_fill_031fb (Cond.code yJ7_fill_031fb cJ7_fill_031fb 4 none) 0 0 [.ref (p0), .int (p1)] σ (.inl none) τ := by
  unfold m_J7_fill_031fb at hm
  obtain ⟨hg, hm⟩ := grw_e hm
  refine tMt_of (n := 0) rfl (Nat.le_of_ble_eq_true rfl) hg ?_
  intro p e s m below meth c C htab hin
  refine zx_lv [0, 1] [(0, .ref (p0)), (1, .int (p1))] rfl ?_
  refine zx_iconst (v := 0) C dJ7_fill_031fb_0 (by decide) ?_
  refine zx_istore_n C [(2, .int (0)), (0, .ref (p0)), (1, .int (p1))] dJ7_fill_031fb_1 rfl (by decide) rfl ?_
  refine zx_aload_n C dJ7_fill_031fb_2 1 rfl ?_
  obtain ⟨n3, k1, i2, hm⟩ := ckR_e hm
  refine zx_alen C k1 (by decide) i2 dJ7_fill_031fb_3 ?_
  refine zx_topi (fun y4 hy4 => ?_)
  replace hm := ltb_e hm hy4
  refine zx_istore_n C [(3, .int (y4)), (2, .int (0)), (0, .ref (p0)), (1, .int (p1))] dJ7_fill_031fb_4 rfl (by decide) rfl ?_
  exact zx_lv [2, 3, 1, 0] [(0, .ref (p0)), (1, .int (p1)), (2, .int (0)), (3, .int (y4))] rfl (l_J7_fill_031fb_5 C htab hin  _ _ _ _ _ _ hm)
abbrev cX0_act : ByteArray := prog_2_method_4_code
def yX0_act : MethodName := ⟨"SyncTree$Disk", "act", "()V"⟩
theorem Y_X0_act : tY yX0_act cX0_act 1 none 0 := ⟨W_3_202, W_1_2, ⟨by decide +kernel, by decide +kernel⟩, by decide +kernel⟩
theorem dX0_act_0 : decode cX0_act 0 = .ok (.aload_n 0, 1) := by decide +kernel
theorem dX0_act_1 : decode cX0_act 1 = .ok (.getfield 65, 3) := by decide +kernel
theorem dX0_act_4 : decode cX0_act 4 = .ok (.ifCond .ne 17, 3) := by decide +kernel
theorem dX0_act_7 : decode cX0_act 7 = .ok (.aload_n 0, 1) := by decide +kernel
theorem dX0_act_8 : decode cX0_act 8 = .ok (.invokevirtual 79, 3) := by decide +kernel
theorem dX0_act_11 : decode cX0_act 11 = .ok (.new 72, 3) := by decide +kernel
theorem dX0_act_14 : decode cX0_act 14 = .ok (.dup, 1) := by decide +kernel
theorem dX0_act_15 : decode cX0_act 15 = .ok (.ldc 82, 2) := by decide +kernel
theorem dX0_act_17 : decode cX0_act 17 = .ok (.invokespecial 76, 3) := by decide +kernel
theorem dX0_act_20 : decode cX0_act 20 = .ok (.athrow, 1) := by decide +kernel
theorem dX0_act_21 : decode cX0_act 21 = .ok (.aload_n 0, 1) := by decide +kernel
theorem dX0_act_22 : decode cX0_act 22 = .ok (.getfield 65, 3) := by decide +kernel
theorem dX0_act_25 : decode cX0_act 25 = .ok (.ifCond .le 13, 3) := by decide +kernel
theorem dX0_act_28 : decode cX0_act 28 = .ok (.aload_n 0, 1) := by decide +kernel
theorem dX0_act_29 : decode cX0_act 29 = .ok (.dup, 1) := by decide +kernel
theorem dX0_act_30 : decode cX0_act 30 = .ok (.getfield 65, 3) := by decide +kernel
theorem dX0_act_33 : decode cX0_act 33 = .ok (.iconst 1, 1) := by decide +kernel
theorem dX0_act_34 : decode cX0_act 34 = .ok (.isub, 1) := by decide +kernel
theorem dX0_act_35 : decode cX0_act 35 = .ok (.putfield 65, 3) := by decide +kernel
theorem dX0_act_38 : decode cX0_act 38 = .ok (.aload_n 0, 1) := by decide +kernel
theorem dX0_act_39 : decode cX0_act 39 = .ok (.dup, 1) := by decide +kernel
theorem dX0_act_40 : decode cX0_act 40 = .ok (.getfield 59, 3) := by decide +kernel
theorem dX0_act_43 : decode cX0_act 43 = .ok (.iconst 1, 1) := by decide +kernel
theorem dX0_act_44 : decode cX0_act 44 = .ok (.iadd, 1) := by decide +kernel
theorem dX0_act_45 : decode cX0_act 45 = .ok (.putfield 59, 3) := by decide +kernel
theorem dX0_act_48 : decode cX0_act 48 = .ok (.return_, 1) := by decide +kernel
def J_X0_act_38 (b0 fu : Nat)  (x0 : Nat) (σ : tM) : Option (((Unit) ⊕ Unit) × tM) := ckO b0 (σ) (x0) 0 (some (.inl (()), sI (σ) (x0) 11 ((tI (σ) (x0) 11) + (1))))
def m_X0_act (b0 fu : Nat) (a0 : Nat) (σ : tM) : Option (((Unit) ⊕ Unit) × tM) := grw σ (ckO b0 (σ) (a0) 0 (if (tI (σ) (a0) 13) = (0) then cll (m_X0_losePower b0 fu (a0) (σ)) (fun v7 ρ8 => some (.inr (), sN (ρ8) (b0 + tn (ρ8)) (.inl 12) 6)) else if (tI (σ) (a0) 13) ≤ (0) then J_X0_act_38 b0 fu   (a0) (σ) else J_X0_act_38 b0 fu   (a0) (sI (σ) (a0) 13 ((tI (σ) (a0) 13) - (1)))))
set_option maxRecDepth 100000 in
set_option maxHeartbeats 1000000 in
theorem j_X0_act_38 {p : Program} {l : Launch} {e : Env} {s : State} {m : MethodId} {args : Array Value} {below : List Frame} {meth : Method} {c : Code} {D : va_G} {aC : Nat → ClassId} {b0 fu : Nat} {σ0 τ : tM} {v : (Unit) ⊕ Unit}  (C : tCx p l s m args meth c yX0_act.cls cX0_act 1 none D aC b0 σ0) (htab : ∀ x ∈ c.exceptionTable.toList, False) (hin : meth.name = yX0_act.name)  {x0 : Nat} {σ : tM} (hm : J_X0_act_38 b0 fu  x0 σ = some (v, τ)) : tX p l e s m args below meth c 1 6 90 D aC b0 σ0 (rxV "java/lang/IllegalStateException" v) τ 38 [(0, .ref (x0))] [] σ := by
  unfold J_X0_act_38 at hm
  refine zx_aload_n C dX0_act_38 0 rfl ?_
  refine zx_dup C dX0_act_39 rfl ?_
  obtain ⟨k5, i6, hm⟩ := ckO_e hm
  refine zx_get (j := 11) C tC_0 k5 i6 ⟨by decide, Or.inl W_1_48⟩ dX0_act_40 (.int (tI (σ) (x0) 11)) rfl ?_
  refine zx_iconst (v := 1) C dX0_act_43 (by decide) ?_
  refine zx_iadd C dX0_act_44 ?_
  refine zx_put (j := 11) (ρ := sI (σ) (x0) 11 ((tI (σ) (x0) 11) + (1))) C tC_0 k5 i6 ⟨by decide, Or.inl W_1_48⟩ rfl rfl rfl (sI_ok (fun _ => rfl)) dX0_act_45 ?_
  obtain ⟨rfl, rfl⟩ := ret_e hm
  exact zx_vret C rfl rfl rfl dX0_act_48
set_option maxRecDepth 100000 in
set_option maxHeartbeats 1000000 in
theorem c_X0_act {l : Launch} {D : va_G} {aC : Nat → ClassId} {b0 fu : Nat} {a0 : Nat} {σ τ : tM} {v : (Unit) ⊕ Unit} (hm : m_X0_act b0 fu a0 σ = some (v, τ)) : tMt l D aC b0 yX0_act (Cond.code yX0_act cX0_act 1 none) 6 90 [.ref (a0)] σ (rxV "java/lang/IllegalStateException" v) τ := by
  unfold m_X0_act at hm
  obtain ⟨hg, hm⟩ := grw_e hm
  refine tMt_of (n := 0) rfl (Nat.le_of_ble_eq_true rfl) hg ?_
  intro p e s m below meth c C htab hin
  refine zx_lv [0] [(0, .ref (a0))] rfl ?_
  refine zx_aload_n C dX0_act_0 0 rfl ?_
  obtain ⟨k1, i2, hm⟩ := ckO_e hm
  refine zx_get (j := 13) C tC_0 k1 i2 ⟨by decide, Or.inl W_1_50⟩ dX0_act_1 (.int (tI (σ) (a0) 13)) rfl ?_
  refine zx_if_ne C 21 dX0_act_4 (by decide) (fun c3 => ?_) (fun c3 => ?_)
  · replace hm := in_e hm c3
    refine zx_aload_n C dX0_act_21 0 rfl ?_
    refine zx_get (j := 13) C tC_0 k1 i2 ⟨by decide, Or.inl W_1_50⟩ dX0_act_22 (.int (tI (σ) (a0) 13)) rfl ?_
    refine zx_if_le C 38 dX0_act_25 (by decide) (fun c4 => ?_) (fun c4 => ?_)
    · replace hm := ip_e hm c4
      exact zx_lv [0] [(0, .ref (a0))] rfl (j_X0_act_38 C htab hin    hm)
    · replace hm := in_e hm c4
      refine zx_aload_n C dX0_act_28 0 rfl ?_
      refine zx_dup C dX0_act_29 rfl ?_
      refine zx_get (j := 13) C tC_0 k1 i2 ⟨by decide, Or.inl W_1_50⟩ dX0_act_30 (.int (tI (σ) (a0) 13)) rfl ?_
      refine zx_iconst (v := 1) C dX0_act_33 (by decide) ?_
      refine zx_isub C dX0_act_34 ?_
      refine zx_put (j := 13) (ρ := sI (σ) (a0) 13 ((tI (σ) (a0) 13) - (1))) C tC_0 k1 i2 ⟨by decide, Or.inl W_1_50⟩ rfl rfl rfl (sI_ok (fun _ => rfl)) dX0_act_35 ?_
      exact zx_lv [0] [(0, .ref (a0))] rfl (j_X0_act_38 C htab hin    hm)
  · replace hm := ip_e hm c3
    refine zx_aload_n C dX0_act_7 0 rfl ?_
    obtain ⟨v7, ρ8, h9, hm⟩ := cll_e hm
    refine zx_callV (σ := σ) C [] tC_0 k1 i2 Y_X0_losePower W_3_203 W_3_204 W_3_205 (c_X0_losePower h9) (by decide) (by decide) rfl (Nat.le_of_ble_eq_true rfl) dX0_act_8 rfl ?_
    obtain ⟨rfl, rfl⟩ := ret_e hm
    exact zx_throw C htab (Or.inr ⟨rfl, rfl⟩) dX0_act_11 dX0_act_14 dX0_act_15 dX0_act_17 dX0_act_20 rfl rfl (by decide) (by decide) (Nat.le_of_ble_eq_true rfl)
abbrev cX0_giveBytes : ByteArray := prog_2_method_7_code
def yX0_giveBytes : MethodName := ⟨"SyncTree$Disk", "giveBytes", "([JI)V"⟩
theorem Y_X0_giveBytes : tY yX0_giveBytes cX0_giveBytes 4 none 2 := ⟨W_6_56, W_1_2, ⟨by decide +kernel, by decide +kernel⟩, by decide +kernel⟩
theorem dX0_giveBytes_0 : decode cX0_giveBytes 0 = .ok (.aload_n 0, 1) := by decide +kernel
theorem dX0_giveBytes_1 : decode cX0_giveBytes 1 = .ok (.getfield 56, 3) := by decide +kernel
theorem dX0_giveBytes_4 : decode cX0_giveBytes 4 = .ok (.iconst 1, 1) := by decide +kernel
theorem dX0_giveBytes_5 : decode cX0_giveBytes 5 = .ok (.if_icmp .lt 16, 3) := by decide +kernel
theorem dX0_giveBytes_8 : decode cX0_giveBytes 8 = .ok (.iload_n 2, 1) := by decide +kernel
theorem dX0_giveBytes_9 : decode cX0_giveBytes 9 = .ok (.ifCond .lt 12, 3) := by decide +kernel
theorem dX0_giveBytes_12 : decode cX0_giveBytes 12 = .ok (.iload_n 2, 1) := by decide +kernel
theorem dX0_giveBytes_13 : decode cX0_giveBytes 13 = .ok (.aload_n 1, 1) := by decide +kernel
theorem dX0_giveBytes_14 : decode cX0_giveBytes 14 = .ok (.arraylength, 1) := by decide +kernel
theorem dX0_giveBytes_15 : decode cX0_giveBytes 15 = .ok (.bipush 32, 2) := by decide +kernel
theorem dX0_giveBytes_17 : decode cX0_giveBytes 17 = .ok (.isub, 1) := by decide +kernel
theorem dX0_giveBytes_18 : decode cX0_giveBytes 18 = .ok (.if_icmp .le 4, 3) := by decide +kernel
theorem dX0_giveBytes_21 : decode cX0_giveBytes 21 = .ok (.return_, 1) := by decide +kernel
theorem dX0_giveBytes_22 : decode cX0_giveBytes 22 = .ok (.aload_n 0, 1) := by decide +kernel
theorem dX0_giveBytes_23 : decode cX0_giveBytes 23 = .ok (.getfield 53, 3) := by decide +kernel
theorem dX0_giveBytes_26 : decode cX0_giveBytes 26 = .ok (.aload_n 0, 1) := by decide +kernel
theorem dX0_giveBytes_27 : decode cX0_giveBytes 27 = .ok (.getfield 56, 3) := by decide +kernel
theorem dX0_giveBytes_30 : decode cX0_giveBytes 30 = .ok (.iadd, 1) := by decide +kernel
theorem dX0_giveBytes_31 : decode cX0_giveBytes 31 = .ok (.iconst 1, 1) := by decide +kernel
theorem dX0_giveBytes_32 : decode cX0_giveBytes 32 = .ok (.isub, 1) := by decide +kernel
theorem dX0_giveBytes_33 : decode cX0_giveBytes 33 = .ok (.sipush 256, 3) := by decide +kernel
theorem dX0_giveBytes_36 : decode cX0_giveBytes 36 = .ok (.irem, 1) := by decide +kernel
theorem dX0_giveBytes_37 : decode cX0_giveBytes 37 = .ok (.istore_n 3, 1) := by decide +kernel
theorem dX0_giveBytes_38 : decode cX0_giveBytes 38 = .ok (.aload_n 0, 1) := by decide +kernel
theorem dX0_giveBytes_39 : decode cX0_giveBytes 39 = .ok (.getfield 33, 3) := by decide +kernel
theorem dX0_giveBytes_42 : decode cX0_giveBytes 42 = .ok (.iload_n 3, 1) := by decide +kernel
theorem dX0_giveBytes_43 : decode cX0_giveBytes 43 = .ok (.aaload, 1) := by decide +kernel
theorem dX0_giveBytes_44 : decode cX0_giveBytes 44 = .ok (.ifnonnull 16, 3) := by decide +kernel
theorem dX0_giveBytes_47 : decode cX0_giveBytes 47 = .ok (.aload_n 0, 1) := by decide +kernel
theorem dX0_giveBytes_48 : decode cX0_giveBytes 48 = .ok (.getfield 33, 3) := by decide +kernel
theorem dX0_giveBytes_51 : decode cX0_giveBytes 51 = .ok (.iload_n 3, 1) := by decide +kernel
theorem dX0_giveBytes_52 : decode cX0_giveBytes 52 = .ok (.new 15, 3) := by decide +kernel
theorem dX0_giveBytes_55 : decode cX0_giveBytes 55 = .ok (.dup, 1) := by decide +kernel
theorem dX0_giveBytes_56 : decode cX0_giveBytes 56 = .ok (.invokespecial 90, 3) := by decide +kernel
theorem dX0_giveBytes_59 : decode cX0_giveBytes 59 = .ok (.aastore, 1) := by decide +kernel
theorem dX0_giveBytes_60 : decode cX0_giveBytes 60 = .ok (.aload_n 1, 1) := by decide +kernel
theorem dX0_giveBytes_61 : decode cX0_giveBytes 61 = .ok (.iload_n 2, 1) := by decide +kernel
theorem dX0_giveBytes_62 : decode cX0_giveBytes 62 = .ok (.aload_n 0, 1) := by decide +kernel
theorem dX0_giveBytes_63 : decode cX0_giveBytes 63 = .ok (.getfield 33, 3) := by decide +kernel
theorem dX0_giveBytes_66 : decode cX0_giveBytes 66 = .ok (.iload_n 3, 1) := by decide +kernel
theorem dX0_giveBytes_67 : decode cX0_giveBytes 67 = .ok (.aaload, 1) := by decide +kernel
theorem dX0_giveBytes_68 : decode cX0_giveBytes 68 = .ok (.getfield 91, 3) := by decide +kernel
theorem dX0_giveBytes_71 : decode cX0_giveBytes 71 = .ok (.iconst 0, 1) := by decide +kernel
theorem dX0_giveBytes_72 : decode cX0_giveBytes 72 = .ok (.bipush 32, 2) := by decide +kernel
theorem dX0_giveBytes_74 : decode cX0_giveBytes 74 = .ok (.invokestatic 95, 3) := by decide +kernel
theorem dX0_giveBytes_77 : decode cX0_giveBytes 77 = .ok (.aload_n 0, 1) := by decide +kernel
theorem dX0_giveBytes_78 : decode cX0_giveBytes 78 = .ok (.getfield 36, 3) := by decide +kernel
theorem dX0_giveBytes_81 : decode cX0_giveBytes 81 = .ok (.iload_n 3, 1) := by decide +kernel
theorem dX0_giveBytes_82 : decode cX0_giveBytes 82 = .ok (.iconst 1, 1) := by decide +kernel
theorem dX0_giveBytes_83 : decode cX0_giveBytes 83 = .ok (.bastore, 1) := by decide +kernel
theorem dX0_giveBytes_84 : decode cX0_giveBytes 84 = .ok (.return_, 1) := by decide +kernel
def J_X0_giveBytes_21 (b0 fu : Nat)   (σ : tM) : Option ((Unit) × tM) := some ((), σ)
def J_X0_giveBytes_60 (b0 fu : Nat)  (x0 : Nat) (x1 : Nat) (x2 : Int32) (x3 : Int32) (σ : tM) : Option ((Unit) × tM) := ckO b0 (σ) (x0) 0 (osm (tA (σ) (x0) 6) (fun a20 => ckR b0 (σ) (a20) 4 (fun n24 => ckI (x3) (n24) (omt (tA (σ) (a20) ((x3).toNatClampNeg)) (fun a26 => ckO b0 (σ) (a26) 4 (osm (tA (σ) (a26) 0) (fun a30 => ckR b0 (σ) (x1) 3 (fun n34 => ckR b0 (σ) (a30) 3 (fun n37 => ckC (x2) (0) (32) (n34) (n37) (osm (tA (sLr (σ) (a30) (va_cpy (tL (σ) (x1)) (tL (σ) (a30)) ((x2).toNatClampNeg) (((0 : Int32)).toNatClampNeg) (((32 : Int32)).toNatClampNeg))) (x0) 7) (fun a40 => ckR b0 (sLr (σ) (a30) (va_cpy (tL (σ) (x1)) (tL (σ) (a30)) ((x2).toNatClampNeg) (((0 : Int32)).toNatClampNeg) (((32 : Int32)).toNatClampNeg))) (a40) 2 (fun n44 => ckI (x3) (n44) (some ((), sI (sLr (σ) (a30) (va_cpy (tL (σ) (x1)) (tL (σ) (a30)) ((x2).toNatClampNeg) (((0 : Int32)).toNatClampNeg) (((32 : Int32)).toNatClampNeg))) (a40) ((x3).toNatClampNeg) (vp_nar .boolean ((1 : Int32))))))))))))) (none)))))
def m_X0_giveBytes (b0 fu : Nat) (a0 : Nat) (p0 : Nat) (p1 : Int32) (σ : tM) : Option ((Unit) × tM) := grw σ (ckO b0 (σ) (a0) 0 (if (tI (σ) (a0) 10) < (1) then J_X0_giveBytes_21 b0 fu    (σ) else if (p1) < (0) then J_X0_giveBytes_21 b0 fu    (σ) else ckR b0 (σ) (p0) 3 (fun n7 => if (p1) ≤ ((nI n7) - (32)) then ltb (((((tI (σ) (a0) 9) + (tI (σ) (a0) 10)) - (1)) - (((tI (σ) (a0) 9) + (tI (σ) (a0) 10)) - (1)) / (256) * (256) : Int32)) (fun y9 => osm (tA (σ) (a0) 6) (fun a10 => ckR b0 (σ) (a10) 4 (fun n14 => ckI (y9) (n14) (omt (tA (σ) (a10) ((y9).toNatClampNeg)) (fun a16 => J_X0_giveBytes_60 b0 fu   (a0) (p0) (p1) (y9) (σ)) (osm (tA (σ) (a0) 6) (fun a46 => ltb (sN (σ) (b0 + tn (σ)) (.inl 4) 2) (fun ρ48 => cll (m_X4_init b0 fu (b0 + tn (σ)) (ρ48)) (fun v49 ρ50 => ckR b0 (ρ50) (a46) 4 (fun n54 => ckI (y9) (n54) (ckO b0 (ρ50) (b0 + tn (σ)) 4 (J_X0_giveBytes_60 b0 fu   (a0) (p0) (p1) (y9) (sA (ρ50) (a46) ((y9).toNatClampNeg) (some (b0 + tn (σ))))))))))))))) else J_X0_giveBytes_21 b0 fu    (σ))))
set_option maxRecDepth 100000 in
set_option maxHeartbeats 1000000 in
theorem j_X0_giveBytes_21 {p : Program} {l : Launch} {e : Env} {s : State} {m : MethodId} {args : Array Value} {below : List Frame} {meth : Method} {c : Code} {D : va_G} {aC : Nat → ClassId} {b0 fu : Nat} {σ0 τ : tM} {v : Unit}  (C : tCx p l s m args meth c yX0_giveBytes.cls cX0_giveBytes 4 none D aC b0 σ0) (htab : ∀ x ∈ c.exceptionTable.toList, False) (hin : meth.name = yX0_giveBytes.name)   {σ : tM} (hm : J_X0_giveBytes_21 b0 fu   σ = some (v, τ)) : tX p l e s m args below meth c 4 2 40 D aC b0 σ0 (.inl none) τ 21 [] [] σ := by
  unfold J_X0_giveBytes_21 at hm
  obtain ⟨rfl, rfl⟩ := ret_e hm
  exact zx_vret C rfl rfl rfl dX0_giveBytes_21
set_option maxRecDepth 100000 in
set_option maxHeartbeats 1000000 in
theorem j_X0_giveBytes_60 {p : Program} {l : Launch} {e : Env} {s : State} {m : MethodId} {args : Array Value} {below : List Frame} {meth : Method} {c : Code} {D : va_G} {aC : Nat → ClassId} {b0 fu : Nat} {σ0 τ : tM} {v : Unit}  (C : tCx p l s m args meth c yX0_giveBytes.cls cX0_giveBytes 4 none D aC b0 σ0) (htab : ∀ x ∈ c.exceptionTable.toList, False) (hin : meth.name = yX0_giveBytes.name)  {x0 : Nat} {x1 : Nat} {x2 : Int32} {x3 : Int32} {σ : tM} (hm : J_X0_giveBytes_60 b0 fu  x0 x1 x2 x3 σ = some (v, τ)) : tX p l e s m args below meth c 4 2 40 D aC b0 σ0 (.inl none) τ 60 [(0, .ref (x0)), (1, .ref (x1)), (2, .int (x2)), (3, .int (x3))] [] σ := by
  unfold J_X0_giveBytes_60 at hm
  refine zx_aload_n C dX0_giveBytes_60 1 rfl ?_
  refine zx_iload_n C dX0_giveBytes_61 2 rfl ?_
  refine zx_aload_n C dX0_giveBytes_62 0 rfl ?_
  obtain ⟨k18, i19, hm⟩ := ckO_e hm
  obtain ⟨a20, h21, hm⟩ := osm_e hm
  refine zx_get (j := 6) C tC_0 k18 i19 ⟨by decide, Or.inl W_1_42⟩ dX0_giveBytes_63 (.ref a20) (rf_s h21) ?_
  refine zx_iload_n C dX0_giveBytes_66 3 rfl ?_
  obtain ⟨n24, k22, i23, hm⟩ := ckR_e hm
  obtain ⟨h25, hm⟩ := ckI_e hm
  rcases omt_e hm with ⟨a26, h27, hm⟩ | ⟨h27, hm⟩
  · refine zx_aald C k22 i23 h25 dX0_giveBytes_67 (.ref a26) (rf_s h27) ?_
    obtain ⟨k28, i29, hm⟩ := ckO_e hm
    obtain ⟨a30, h31, hm⟩ := osm_e hm
    refine zx_get (j := 0) C tC_4 k28 i29 ⟨by decide, Or.inr ⟨_, W_2_190⟩⟩ dX0_giveBytes_68 (.ref a30) (rf_s h31) ?_
    refine zx_iconst (v := 0) C dX0_giveBytes_71 (by decide) ?_
    refine zx_bipush (v := 32) C dX0_giveBytes_72 (by decide) ?_
    obtain ⟨n34, k32, i33, hm⟩ := ckR_e hm
    obtain ⟨n37, k35, i36, hm⟩ := ckR_e hm
    obtain ⟨h38, hm⟩ := ckC_e hm
    refine zx_copyJ (σ := σ) C W_6_58 W_2_135 W_2_134 W_1_11 k32 i33 k35 i36 h38  (by decide) (by decide) (Nat.le_of_ble_eq_true rfl) dX0_giveBytes_74 ?_
    refine zx_aload_n C dX0_giveBytes_77 0 rfl ?_
    obtain ⟨a40, h41, hm⟩ := osm_e hm
    refine zx_get (j := 7) C tC_0 k18 i19 ⟨by decide, Or.inl W_1_43⟩ dX0_giveBytes_78 (.ref a40) (rf_s h41) ?_
    refine zx_iload_n C dX0_giveBytes_81 3 rfl ?_
    refine zx_iconst (v := 1) C dX0_giveBytes_82 (by decide) ?_
    obtain ⟨n44, k42, i43, hm⟩ := ckR_e hm
    obtain ⟨h45, hm⟩ := ckI_e hm
    refine zx_zast C k42 i43 h45 dX0_giveBytes_83 ?_
    obtain ⟨rfl, rfl⟩ := ret_e hm
    exact zx_vret C rfl rfl rfl dX0_giveBytes_84
  · refine zx_aald C k22 i23 h25 dX0_giveBytes_67 .null (rf_n h27) ?_
    cases hm
set_option maxRecDepth 100000 in
set_option maxHeartbeats 1000000 in
theorem c_X0_giveBytes {l : Launch} {D : va_G} {aC : Nat → ClassId} {b0 fu : Nat} {a0 : Nat} {p0 : Nat} {p1 : Int32} {σ τ : tM} {v : Unit} (hm : m_X0_giveBytes b0 fu a0 p0 p1 σ = some (v, τ)) : tMt l D aC b0 yX0_giveBytes (Cond.code yX0_giveBytes cX0_giveBytes 4 none) 2 40 [.ref (a0), .ref (p0), .int (p1)] σ (.inl none) τ := by
  unfold m_X0_giveBytes at hm
  obtain ⟨hg, hm⟩ := grw_e hm
  refine tMt_of (n := 0) rfl (Nat.le_of_ble_eq_true rfl) hg ?_
  intro p e s m below meth c C htab hin
  refine zx_lv [0, 1, 2] [(0, .ref (a0)), (1, .ref (p0)), (2, .int (p1))] rfl ?_
  refine zx_aload_n C dX0_giveBytes_0 0 rfl ?_
  obtain ⟨k1, i2, hm⟩ := ckO_e hm
  refine zx_get (j := 10) C tC_0 k1 i2 ⟨by decide, Or.inl W_1_46⟩ dX0_giveBytes_1 (.int (tI (σ) (a0) 10)) rfl ?_
  refine zx_iconst (v := 1) C dX0_giveBytes_4 (by decide) ?_
  refine zx_icmp_lt C 21 dX0_giveBytes_5 (by decide) (fun c3 => ?_) (fun c3 => ?_)
  · replace hm := ip_e hm c3
    exact zx_lv [] [] rfl (j_X0_giveBytes_21 C htab hin    hm)
  · replace hm := in_e hm c3
    refine zx_iload_n C dX0_giveBytes_8 2 rfl ?_
    refine zx_if_lt C 21 dX0_giveBytes_9 (by decide) (fun c4 => ?_) (fun c4 => ?_)
    · replace hm := ip_e hm c4
      exact zx_lv [] [] rfl (j_X0_giveBytes_21 C htab hin    hm)
    · replace hm := in_e hm c4
      refine zx_iload_n C dX0_giveBytes_12 2 rfl ?_
      refine zx_aload_n C dX0_giveBytes_13 1 rfl ?_
      obtain ⟨n7, k5, i6, hm⟩ := ckR_e hm
      refine zx_alen C k5 (by decide) i6 dX0_giveBytes_14 ?_
      refine zx_bipush (v := 32) C dX0_giveBytes_15 (by decide) ?_
      refine zx_isub C dX0_giveBytes_17 ?_
      refine zx_icmp_le C 22 dX0_giveBytes_18 (by decide) (fun c8 => ?_) (fun c8 => ?_)
      · replace hm := ip_e hm c8
        refine zx_aload_n C dX0_giveBytes_22 0 rfl ?_
        refine zx_get (j := 9) C tC_0 k1 i2 ⟨by decide, Or.inl W_1_45⟩ dX0_giveBytes_23 (.int (tI (σ) (a0) 9)) rfl ?_
        refine zx_aload_n C dX0_giveBytes_26 0 rfl ?_
        refine zx_get (j := 10) C tC_0 k1 i2 ⟨by decide, Or.inl W_1_46⟩ dX0_giveBytes_27 (.int (tI (σ) (a0) 10)) rfl ?_
        refine zx_iadd C dX0_giveBytes_30 ?_
        refine zx_iconst (v := 1) C dX0_giveBytes_31 (by decide) ?_
        refine zx_isub C dX0_giveBytes_32 ?_
        refine zx_sipush (v := 256) C dX0_giveBytes_33 (by decide) ?_
        refine zx_irem C dX0_giveBytes_36 (by decide) ?_
        refine zx_topi (fun y9 hy9 => ?_)
        replace hm := ltb_e hm hy9
        refine zx_istore_n C [(3, .int (y9)), (0, .ref (a0)), (1, .ref (p0)), (2, .int (p1))] dX0_giveBytes_37 rfl (by decide) rfl ?_
        refine zx_aload_n C dX0_giveBytes_38 1 rfl ?_
        obtain ⟨a10, h11, hm⟩ := osm_e hm
        refine zx_get (j := 6) C tC_0 k1 i2 ⟨by decide, Or.inl W_1_42⟩ dX0_giveBytes_39 (.ref a10) (rf_s h11) ?_
        refine zx_iload_n C dX0_giveBytes_42 0 rfl ?_
        obtain ⟨n14, k12, i13, hm⟩ := ckR_e hm
        obtain ⟨h15, hm⟩ := ckI_e hm
        rcases omt_e hm with ⟨a16, h17, hm⟩ | ⟨h17, hm⟩
        · refine zx_aald C k12 i13 h15 dX0_giveBytes_43 (.ref a16) (rf_s h17) ?_
          refine zx_ifnonnull C 60 dX0_giveBytes_44 (by decide) ?_
          exact zx_lv [1, 2, 3, 0] [(0, .ref (a0)), (1, .ref (p0)), (2, .int (p1)), (3, .int (y9))] rfl (j_X0_giveBytes_60 C htab hin    hm)
        · refine zx_aald C k12 i13 h15 dX0_giveBytes_43 .null (rf_n h17) ?_
          refine zx_ifnonnullN C dX0_giveBytes_44 ?_
          refine zx_aload_n C dX0_giveBytes_47 1 rfl ?_
          obtain ⟨a46, h47, hm⟩ := osm_e hm
          refine zx_get (j := 6) C tC_0 k1 i2 ⟨by decide, Or.inl W_1_42⟩ dX0_giveBytes_48 (.ref a46) (rf_s h47) ?_
          refine zx_iload_n C dX0_giveBytes_51 0 rfl ?_
          refine zx_new C tC_4 W_1_34 W_2_184 W_1_13 dX0_giveBytes_52 ?_
          refine zx_mem (fun ρ48 hρ48 => ?_)
          replace hm := ltb_e hm hρ48
          refine zx_dup C dX0_giveBytes_55 rfl ?_
          obtain ⟨v49, ρ50, h51, hm⟩ := cll_e hm
          refine zx_callIN (σ := ρ48) C [] Y_X4_init W_6_57 W_2_186 rfl (c_X4_init h51) (by decide) (by decide) rfl (Nat.le_of_ble_eq_true rfl) dX0_giveBytes_56 rfl ?_
          obtain ⟨n54, k52, i53, hm⟩ := ckR_e hm
          obtain ⟨h55, hm⟩ := ckI_e hm
          obtain ⟨k56, i57, hm⟩ := ckO_e hm
          refine zx_ast C k52 i53 k56 i57 h55 dX0_giveBytes_59 ?_
          exact zx_lv [1, 2, 3, 0] [(0, .ref (a0)), (1, .ref (p0)), (2, .int (p1)), (3, .int (y9))] rfl (j_X0_giveBytes_60 C htab hin    hm)
      · replace hm := in_e hm c8
        exact zx_lv [] [] rfl (j_X0_giveBytes_21 C htab hin    hm)
abbrev cX0_keepOldest : ByteArray := prog_2_method_9_code
def yX0_keepOldest : MethodName := ⟨"SyncTree$Disk", "keepOldest", "()V"⟩
theorem Y_X0_keepOldest : tY yX0_keepOldest cX0_keepOldest 1 none 0 := ⟨W_3_211, W_1_2, ⟨by decide +kernel, by decide +kernel⟩, by decide +kernel⟩
theorem dX0_keepOldest_0 : decode cX0_keepOldest 0 = .ok (.aload_n 0, 1) := by decide +kernel
theorem dX0_keepOldest_1 : decode cX0_keepOldest 1 = .ok (.aload_n 0, 1) := by decide +kernel
theorem dX0_keepOldest_2 : decode cX0_keepOldest 2 = .ok (.getfield 53, 3) := by decide +kernel
theorem dX0_keepOldest_5 : decode cX0_keepOldest 5 = .ok (.invokevirtual 101, 3) := by decide +kernel
theorem dX0_keepOldest_8 : decode cX0_keepOldest 8 = .ok (.aload_n 0, 1) := by decide +kernel
theorem dX0_keepOldest_9 : decode cX0_keepOldest 9 = .ok (.getfield 21, 3) := by decide +kernel
theorem dX0_keepOldest_12 : decode cX0_keepOldest 12 = .ok (.aload_n 0, 1) := by decide +kernel
theorem dX0_keepOldest_13 : decode cX0_keepOldest 13 = .ok (.getfield 27, 3) := by decide +kernel
theorem dX0_keepOldest_16 : decode cX0_keepOldest 16 = .ok (.aload_n 0, 1) := by decide +kernel
theorem dX0_keepOldest_17 : decode cX0_keepOldest 17 = .ok (.getfield 53, 3) := by decide +kernel
theorem dX0_keepOldest_20 : decode cX0_keepOldest 20 = .ok (.iaload, 1) := by decide +kernel
theorem dX0_keepOldest_21 : decode cX0_keepOldest 21 = .ok (.dup2, 1) := by decide +kernel
theorem dX0_keepOldest_22 : decode cX0_keepOldest 22 = .ok (.iaload, 1) := by decide +kernel
theorem dX0_keepOldest_23 : decode cX0_keepOldest 23 = .ok (.iconst 1, 1) := by decide +kernel
theorem dX0_keepOldest_24 : decode cX0_keepOldest 24 = .ok (.isub, 1) := by decide +kernel
theorem dX0_keepOldest_25 : decode cX0_keepOldest 25 = .ok (.iastore, 1) := by decide +kernel
theorem dX0_keepOldest_26 : decode cX0_keepOldest 26 = .ok (.aload_n 0, 1) := by decide +kernel
theorem dX0_keepOldest_27 : decode cX0_keepOldest 27 = .ok (.aload_n 0, 1) := by decide +kernel
theorem dX0_keepOldest_28 : decode cX0_keepOldest 28 = .ok (.getfield 53, 3) := by decide +kernel
theorem dX0_keepOldest_31 : decode cX0_keepOldest 31 = .ok (.iconst 1, 1) := by decide +kernel
theorem dX0_keepOldest_32 : decode cX0_keepOldest 32 = .ok (.iadd, 1) := by decide +kernel
theorem dX0_keepOldest_33 : decode cX0_keepOldest 33 = .ok (.sipush 256, 3) := by decide +kernel
theorem dX0_keepOldest_36 : decode cX0_keepOldest 36 = .ok (.irem, 1) := by decide +kernel
theorem dX0_keepOldest_37 : decode cX0_keepOldest 37 = .ok (.putfield 53, 3) := by decide +kernel
theorem dX0_keepOldest_40 : decode cX0_keepOldest 40 = .ok (.aload_n 0, 1) := by decide +kernel
theorem dX0_keepOldest_41 : decode cX0_keepOldest 41 = .ok (.dup, 1) := by decide +kernel
theorem dX0_keepOldest_42 : decode cX0_keepOldest 42 = .ok (.getfield 56, 3) := by decide +kernel
theorem dX0_keepOldest_45 : decode cX0_keepOldest 45 = .ok (.iconst 1, 1) := by decide +kernel
theorem dX0_keepOldest_46 : decode cX0_keepOldest 46 = .ok (.isub, 1) := by decide +kernel
theorem dX0_keepOldest_47 : decode cX0_keepOldest 47 = .ok (.putfield 56, 3) := by decide +kernel
theorem dX0_keepOldest_50 : decode cX0_keepOldest 50 = .ok (.return_, 1) := by decide +kernel
def m_X0_keepOldest (b0 fu : Nat) (a0 : Nat) (σ : tM) : Option ((Unit) × tM) := grw σ (ckO b0 (σ) (a0) 0 (cll (m_X0_keep b0 fu (a0) (tI (σ) (a0) 9) (σ)) (fun v3 ρ4 => ckO b0 (ρ4) (a0) 0 (osm (tA (ρ4) (a0) 2) (fun a8 => osm (tA (ρ4) (a0) 4) (fun a10 => ckR b0 (ρ4) (a10) 0 (fun n14 => ckI (tI (ρ4) (a0) 9) (n14) (ckR b0 (ρ4) (a8) 0 (fun n18 => ckI (tI (ρ4) (a10) ((tI (ρ4) (a0) 9).toNatClampNeg)) (n18) (ckI (tI (ρ4) (a10) ((tI (ρ4) (a0) 9).toNatClampNeg)) (n18) (ltb (sI (sI (ρ4) (a8) ((tI (ρ4) (a10) ((tI (ρ4) (a0) 9).toNatClampNeg)).toNatClampNeg) ((tI (ρ4) (a8) ((tI (ρ4) (a10) ((tI (ρ4) (a0) 9).toNatClampNeg)).toNatClampNeg)) - (1))) (a0) 9 (((tI (sI (ρ4) (a8) ((tI (ρ4) (a10) ((tI (ρ4) (a0) 9).toNatClampNeg)).toNatClampNeg) ((tI (ρ4) (a8) ((tI (ρ4) (a10) ((tI (ρ4) (a0) 9).toNatClampNeg)).toNatClampNeg)) - (1))) (a0) 9) + (1)) - ((tI (sI (ρ4) (a8) ((tI (ρ4) (a10) ((tI (ρ4) (a0) 9).toNatClampNeg)).toNatClampNeg) ((tI (ρ4) (a8) ((tI (ρ4) (a10) ((tI (ρ4) (a0) 9).toNatClampNeg)).toNatClampNeg)) - (1))) (a0) 9) + (1)) / (256) * (256))) (fun ρ21 => some ((), sI (ρ21) (a0) 10 ((tI (ρ21) (a0) 10) - (1)))))))))))))))
set_option maxRecDepth 100000 in
set_option maxHeartbeats 1000000 in
theorem c_X0_keepOldest {l : Launch} {D : va_G} {aC : Nat → ClassId} {b0 fu : Nat} {a0 : Nat} {σ τ : tM} {v : Unit} (hm : m_X0_keepOldest b0 fu a0 σ = some (v, τ)) : tMt l D aC b0 yX0_keepOldest (Cond.code yX0_keepOldest cX0_keepOldest 1 none) 1 23 [.ref (a0)] σ (.inl none) τ := by
  unfold m_X0_keepOldest at hm
  obtain ⟨hg, hm⟩ := grw_e hm
  refine tMt_of (n := 0) rfl (Nat.le_of_ble_eq_true rfl) hg ?_
  intro p e s m below meth c C htab hin
  refine zx_lv [0] [(0, .ref (a0))] rfl ?_
  refine zx_aload_n C dX0_keepOldest_0 0 rfl ?_
  refine zx_aload_n C dX0_keepOldest_1 0 rfl ?_
  obtain ⟨k1, i2, hm⟩ := ckO_e hm
  refine zx_get (j := 9) C tC_0 k1 i2 ⟨by decide, Or.inl W_1_45⟩ dX0_keepOldest_2 (.int (tI (σ) (a0) 9)) rfl ?_
  obtain ⟨v3, ρ4, h5, hm⟩ := cll_e hm
  refine zx_callV (σ := σ) C [.int (tI (σ) (a0) 9)] tC_0 k1 i2 Y_X0_keep W_3_212 W_3_214 Wp_14 (c_X0_keep h5) (by decide) (by decide) rfl (Nat.le_of_ble_eq_true rfl) dX0_keepOldest_5 rfl ?_
  refine zx_aload_n C dX0_keepOldest_8 0 rfl ?_
  obtain ⟨k6, i7, hm⟩ := ckO_e hm
  obtain ⟨a8, h9, hm⟩ := osm_e hm
  refine zx_get (j := 2) C tC_0 k6 i7 ⟨by decide, Or.inl W_1_38⟩ dX0_keepOldest_9 (.ref a8) (rf_s h9) ?_
  refine zx_aload_n C dX0_keepOldest_12 0 rfl ?_
  obtain ⟨a10, h11, hm⟩ := osm_e hm
  refine zx_get (j := 4) C tC_0 k6 i7 ⟨by decide, Or.inl W_1_40⟩ dX0_keepOldest_13 (.ref a10) (rf_s h11) ?_
  refine zx_aload_n C dX0_keepOldest_16 0 rfl ?_
  refine zx_get (j := 9) C tC_0 k6 i7 ⟨by decide, Or.inl W_1_45⟩ dX0_keepOldest_17 (.int (tI (ρ4) (a0) 9)) rfl ?_
  obtain ⟨n14, k12, i13, hm⟩ := ckR_e hm
  obtain ⟨h15, hm⟩ := ckI_e hm
  refine zx_iald C k12 i13 h15 dX0_keepOldest_20 ?_
  refine zx_dup2_11 C dX0_keepOldest_21 rfl rfl ?_
  obtain ⟨n18, k16, i17, hm⟩ := ckR_e hm
  obtain ⟨h19, hm⟩ := ckI_e hm
  refine zx_iald C k16 i17 h19 dX0_keepOldest_22 ?_
  refine zx_iconst (v := 1) C dX0_keepOldest_23 (by decide) ?_
  refine zx_isub C dX0_keepOldest_24 ?_
  obtain ⟨h20, hm⟩ := ckI_e hm
  refine zx_iast C k16 i17 h20 dX0_keepOldest_25 ?_
  refine zx_aload_n C dX0_keepOldest_26 0 rfl ?_
  refine zx_aload_n C dX0_keepOldest_27 0 rfl ?_
  refine zx_get (j := 9) C tC_0 k6 i7 ⟨by decide, Or.inl W_1_45⟩ dX0_keepOldest_28 (.int (tI (sI (ρ4) (a8) ((tI (ρ4) (a10) ((tI (ρ4) (a0) 9).toNatClampNeg)).toNatClampNeg) ((tI (ρ4) (a8) ((tI (ρ4) (a10) ((tI (ρ4) (a0) 9).toNatClampNeg)).toNatClampNeg)) - (1))) (a0) 9)) rfl ?_
  refine zx_iconst (v := 1) C dX0_keepOldest_31 (by decide) ?_
  refine zx_iadd C dX0_keepOldest_32 ?_
  refine zx_sipush (v := 256) C dX0_keepOldest_33 (by decide) ?_
  refine zx_irem C dX0_keepOldest_36 (by decide) ?_
  refine zx_put (j := 9) (ρ := sI (sI (ρ4) (a8) ((tI (ρ4) (a10) ((tI (ρ4) (a0) 9).toNatClampNeg)).toNatClampNeg) ((tI (ρ4) (a8) ((tI (ρ4) (a10) ((tI (ρ4) (a0) 9).toNatClampNeg)).toNatClampNeg)) - (1))) (a0) 9 (((tI (sI (ρ4) (a8) ((tI (ρ4) (a10) ((tI (ρ4) (a0) 9).toNatClampNeg)).toNatClampNeg) ((tI (ρ4) (a8) ((tI (ρ4) (a10) ((tI (ρ4) (a0) 9).toNatClampNeg)).toNatClampNeg)) - (1))) (a0) 9) + (1)) - ((tI (sI (ρ4) (a8) ((tI (ρ4) (a10) ((tI (ρ4) (a0) 9).toNatClampNeg)).toNatClampNeg) ((tI (ρ4) (a8) ((tI (ρ4) (a10) ((tI (ρ4) (a0) 9).toNatClampNeg)).toNatClampNeg)) - (1))) (a0) 9) + (1)) / (256) * (256))) C tC_0 k6 i7 ⟨by decide, Or.inl W_1_45⟩ rfl rfl rfl (sI_ok (fun _ => rfl)) dX0_keepOldest_37 ?_
  refine zx_mem (fun ρ21 hρ21 => ?_)
  replace hm := ltb_e hm hρ21
  have k22 : tk ρ21 (a0) = .inl 0 := by rw [hρ21]; exact k6
  have i23 : tIn b0 ρ21 (a0) := by rw [hρ21]; exact i7
  have k24 : tk ρ21 (a10) = .inr (0, n14) := by rw [hρ21]; exact k12
  have i25 : tIn b0 ρ21 (a10) := by rw [hρ21]; exact i13
  have k26 : tk ρ21 (a8) = .inr (0, n18) := by rw [hρ21]; exact k16
  have i27 : tIn b0 ρ21 (a8) := by rw [hρ21]; exact i17
  refine zx_aload_n C dX0_keepOldest_40 0 rfl ?_
  refine zx_dup C dX0_keepOldest_41 rfl ?_
  refine zx_get (j := 10) C tC_0 k22 i23 ⟨by decide, Or.inl W_1_46⟩ dX0_keepOldest_42 (.int (tI (ρ21) (a0) 10)) rfl ?_
  refine zx_iconst (v := 1) C dX0_keepOldest_45 (by decide) ?_
  refine zx_isub C dX0_keepOldest_46 ?_
  refine zx_put (j := 10) (ρ := sI (ρ21) (a0) 10 ((tI (ρ21) (a0) 10) - (1))) C tC_0 k22 i23 ⟨by decide, Or.inl W_1_46⟩ rfl rfl rfl (sI_ok (fun _ => rfl)) dX0_keepOldest_47 ?_
  obtain ⟨rfl, rfl⟩ := ret_e hm
  exact zx_vret C rfl rfl rfl dX0_keepOldest_50
abbrev cX1_forget : ByteArray := prog_3_method_2_code
def yX1_forget : MethodName := ⟨"SyncTree$Journal", "forget", "()V"⟩
theorem Y_X1_forget : tY yX1_forget cX1_forget 2 none 0 := ⟨W_2_88, W_1_5, ⟨by decide +kernel, by decide +kernel⟩, by decide +kernel⟩
theorem dX1_forget_0 : decode cX1_forget 0 = .ok (.aload_n 0, 1) := by decide +kernel
theorem dX1_forget_1 : decode cX1_forget 1 = .ok (.invokevirtual 33, 3) := by decide +kernel
theorem dX1_forget_4 : decode cX1_forget 4 = .ok (.iconst 0, 1) := by decide +kernel
theorem dX1_forget_5 : decode cX1_forget 5 = .ok (.istore_n 1, 1) := by decide +kernel
theorem dX1_forget_6 : decode cX1_forget 6 = .ok (.iload_n 1, 1) := by decide +kernel
theorem dX1_forget_7 : decode cX1_forget 7 = .ok (.aload_n 0, 1) := by decide +kernel
theorem dX1_forget_8 : decode cX1_forget 8 = .ok (.getfield 25, 3) := by decide +kernel
theorem dX1_forget_11 : decode cX1_forget 11 = .ok (.getfield 36, 3) := by decide +kernel
theorem dX1_forget_14 : decode cX1_forget 14 = .ok (.if_icmp .ge 15, 3) := by decide +kernel
theorem dX1_forget_17 : decode cX1_forget 17 = .ok (.aload_n 0, 1) := by decide +kernel
theorem dX1_forget_18 : decode cX1_forget 18 = .ok (.iload_n 1, 1) := by decide +kernel
theorem dX1_forget_19 : decode cX1_forget 19 = .ok (.aconst_null, 1) := by decide +kernel
theorem dX1_forget_20 : decode cX1_forget 20 = .ok (.invokevirtual 42, 3) := by decide +kernel
theorem dX1_forget_23 : decode cX1_forget 23 = .ok (.iinc 1 1, 3) := by decide +kernel
theorem dX1_forget_26 : decode cX1_forget 26 = .ok (.goto (-20), 3) := by decide +kernel
theorem dX1_forget_29 : decode cX1_forget 29 = .ok (.return_, 1) := by decide +kernel
def L_X1_forget_6 (b0 fu : Nat)  : Nat → Nat → Int32 → tM → Option ((Unit) × tM)
  | 0, _, _, _ => none
  | n + 1, x0, x1, σ => ltb (L_X1_forget_6 b0 fu  n) (fun rc6 => ckO b0 (σ) (x0) 1 (osm (tA (σ) (x0) 1) (fun a8 => ckO b0 (σ) (a8) 5 (if (tI (σ) (a8) 7) ≤ (x1) then some ((), σ) else cll (m_X1_setBase b0 fu (x0) (x1) (none) (σ)) (fun v13 ρ14 => ltb ((x1) + Int32.ofInt 1) (fun y16 => rc6 (x0) (y16) (ρ14)))))))
def m_X1_forget (b0 fu : Nat) (a0 : Nat) (σ : tM) : Option ((Unit) × tM) := grw σ (ckO b0 (σ) (a0) 1 (cll (m_X1_dropAll b0 fu (a0) (σ)) (fun v3 ρ4 => L_X1_forget_6 b0 fu  (fu) (a0) (0) (ρ4))))
set_option maxRecDepth 100000 in
set_option maxHeartbeats 1000000 in
theorem l_X1_forget_6 {p : Program} {l : Launch} {e : Env} {s : State} {m : MethodId} {args : Array Value} {below : List Frame} {meth : Method} {c : Code} {D : va_G} {aC : Nat → ClassId} {b0 fu : Nat} {σ0 τ : tM} {v : Unit}  (C : tCx p l s m args meth c yX1_forget.cls cX1_forget 2 none D aC b0 σ0) (htab : ∀ x ∈ c.exceptionTable.toList, False) (hin : meth.name = yX1_forget.name)  : ∀ (n : Nat) (x0 : Nat) (x1 : Int32) (σ : tM), L_X1_forget_6 b0 fu  n x0 x1 σ = some (v, τ) → tX p l e s m args below meth c 2 2 43 D aC b0 σ0 (.inl none) τ 6 [(0, .ref (x0)), (1, .int (x1))] [] σ := by
  intro n
  induction n with
  | zero => intro x0 x1 σ hm; unfold L_X1_forget_6 at hm; cases hm
  | succ n ih =>
    intro x0 x1 σ hm
    unfold L_X1_forget_6 at hm
    obtain ⟨rc6, hrc⟩ : ∃ z, z = L_X1_forget_6 b0 fu  n := ⟨_, rfl⟩
    replace hm := ltb_e hm hrc
    rw [← hrc] at ih
    have hrc6 := ih
    clear ih hrc
    refine zx_iload_n C dX1_forget_6 1 rfl ?_
    refine zx_aload_n C dX1_forget_7 0 rfl ?_
    obtain ⟨k6, i7, hm⟩ := ckO_e hm
    obtain ⟨a8, h9, hm⟩ := osm_e hm
    refine zx_get (j := 1) C tC_1 k6 i7 ⟨by decide, Or.inl W_1_181⟩ dX1_forget_8 (.ref a8) (rf_s h9) ?_
    obtain ⟨k10, i11, hm⟩ := ckO_e hm
    refine zx_get (j := 7) C tC_5 k10 i11 ⟨by decide, Or.inr ⟨_, W_1_103⟩⟩ dX1_forget_11 (.int (tI (σ) (a8) 7)) rfl ?_
    refine zx_icmp_ge C 29 dX1_forget_14 (by decide) (fun c12 => ?_) (fun c12 => ?_)
    · replace hm := ip_e hm c12
      obtain ⟨rfl, rfl⟩ := ret_e hm
      exact zx_vret C rfl rfl rfl dX1_forget_29
    · replace hm := in_e hm c12
      refine zx_aload_n C dX1_forget_17 0 rfl ?_
      refine zx_iload_n C dX1_forget_18 1 rfl ?_
      refine zx_null C dX1_forget_19 ?_
      obtain ⟨v13, ρ14, h15, hm⟩ := cll_e hm
      refine zx_callV (σ := σ) C [.int (x1), va_rf (none)] tC_1 k6 i7 Y_X1_setBase W_2_97 W_2_99 Wp_3 (c_X1_setBase h15) (by decide) (by decide) rfl (Nat.le_of_ble_eq_true rfl) dX1_forget_20 rfl ?_
      obtain ⟨y16, hy16⟩ : ∃ z : Int32, z = (x1) + Int32.ofInt 1 := ⟨_, rfl⟩
      replace hm := ltb_e hm hy16
      refine zx_iinc C [(1, .int (y16)), (0, .ref (x0))] dX1_forget_23 1 rfl hy16.symm (by decide) rfl ?_
      refine zx_goto C 6 dX1_forget_26 (by decide) ?_
      exact zx_lv [1, 0] [(0, .ref (x0)), (1, .int (y16))] rfl (hrc6 _ _ _ hm)
set_option maxRecDepth 100000 in
set_option maxHeartbeats 1000000 in
theorem c_X1_forget {l : Launch} {D : va_G} {aC : Nat → ClassId} {b0 fu : Nat} {a0 : Nat} {σ τ : tM} {v : Unit} (hm : m_X1_forget b0 fu a0 σ = some (v, τ)) : tMt l D aC b0 yX1_forget (Cond.code yX1_forget cX1_forget 2 none) 2 43 [.ref (a0)] σ (.inl none) τ := by
  unfold m_X1_forget at hm
  obtain ⟨hg, hm⟩ := grw_e hm
  refine tMt_of (n := 0) rfl (Nat.le_of_ble_eq_true rfl) hg ?_
  intro p e s m below meth c C htab hin
  refine zx_lv [0] [(0, .ref (a0))] rfl ?_
  refine zx_aload_n C dX1_forget_0 0 rfl ?_
  obtain ⟨k1, i2, hm⟩ := ckO_e hm
  obtain ⟨v3, ρ4, h5, hm⟩ := cll_e hm
  refine zx_callV (σ := σ) C [] tC_1 k1 i2 Y_X1_dropAll W_2_89 W_2_91 Wp_1 (c_X1_dropAll h5) (by decide) (by decide) rfl (Nat.le_of_ble_eq_true rfl) dX1_forget_1 rfl ?_
  refine zx_iconst (v := 0) C dX1_forget_4 (by decide) ?_
  refine zx_istore_n C [(1, .int (0)), (0, .ref (a0))] dX1_forget_5 rfl (by decide) rfl ?_
  exact zx_lv [1, 0] [(0, .ref (a0)), (1, .int (0))] rfl (l_X1_forget_6 C htab hin  _ _ _ _ hm)
abbrev cX1_takeRow : ByteArray := prog_3_method_5_code
def yX1_takeRow : MethodName := ⟨"SyncTree$Journal", "takeRow", "()LSyncTree$Row;"⟩
theorem Y_X1_takeRow : tY yX1_takeRow cX1_takeRow 2 (some (.object "SyncTree$Row")) 0 := ⟨W_2_183, W_1_5, ⟨by decide +kernel, by decide +kernel⟩, by decide +kernel⟩
theorem dX1_takeRow_0 : decode cX1_takeRow 0 = .ok (.aload_n 0, 1) := by decide +kernel
theorem dX1_takeRow_1 : decode cX1_takeRow 1 = .ok (.getfield 95, 3) := by decide +kernel
theorem dX1_takeRow_4 : decode cX1_takeRow 4 = .ok (.astore_n 1, 1) := by decide +kernel
theorem dX1_takeRow_5 : decode cX1_takeRow 5 = .ok (.aload_n 1, 1) := by decide +kernel
theorem dX1_takeRow_6 : decode cX1_takeRow 6 = .ok (.ifnonnull 11, 3) := by decide +kernel
theorem dX1_takeRow_9 : decode cX1_takeRow 9 = .ok (.new 9, 3) := by decide +kernel
theorem dX1_takeRow_12 : decode cX1_takeRow 12 = .ok (.dup, 1) := by decide +kernel
theorem dX1_takeRow_13 : decode cX1_takeRow 13 = .ok (.invokespecial 99, 3) := by decide +kernel
theorem dX1_takeRow_16 : decode cX1_takeRow 16 = .ok (.areturn, 1) := by decide +kernel
theorem dX1_takeRow_17 : decode cX1_takeRow 17 = .ok (.aload_n 0, 1) := by decide +kernel
theorem dX1_takeRow_18 : decode cX1_takeRow 18 = .ok (.aload_n 1, 1) := by decide +kernel
theorem dX1_takeRow_19 : decode cX1_takeRow 19 = .ok (.getfield 100, 3) := by decide +kernel
theorem dX1_takeRow_22 : decode cX1_takeRow 22 = .ok (.putfield 95, 3) := by decide +kernel
theorem dX1_takeRow_25 : decode cX1_takeRow 25 = .ok (.aload_n 1, 1) := by decide +kernel
theorem dX1_takeRow_26 : decode cX1_takeRow 26 = .ok (.aconst_null, 1) := by decide +kernel
theorem dX1_takeRow_27 : decode cX1_takeRow 27 = .ok (.putfield 100, 3) := by decide +kernel
theorem dX1_takeRow_30 : decode cX1_takeRow 30 = .ok (.aload_n 1, 1) := by decide +kernel
theorem dX1_takeRow_31 : decode cX1_takeRow 31 = .ok (.areturn, 1) := by decide +kernel
def m_X1_takeRow (b0 fu : Nat) (a0 : Nat) (σ : tM) : Option ((Option Nat) × tM) := grw σ (ckO b0 (σ) (a0) 1 (omt (tA (σ) (a0) 7) (fun a3 => ckO b0 (σ) (a3) 4 (omt (tA (σ) (a3) 1) (fun a7 => some (some (a3), sA (sA (σ) (a0) 7 (some (a7))) (a3) 1 (none))) (some (some (a3), sA (sA (σ) (a0) 7 (none)) (a3) 1 (none))))) (ltb (sN (σ) (b0 + tn (σ)) (.inl 4) 2) (fun ρ9 => cll (m_X4_init b0 fu (b0 + tn (σ)) (ρ9)) (fun v10 ρ11 => some (some (b0 + tn (σ)), ρ11))))))
set_option maxRecDepth 100000 in
set_option maxHeartbeats 1000000 in
theorem c_X1_takeRow {l : Launch} {D : va_G} {aC : Nat → ClassId} {b0 fu : Nat} {a0 : Nat} {σ τ : tM} {v : Option Nat} (hm : m_X1_takeRow b0 fu a0 σ = some (v, τ)) : tMt l D aC b0 yX1_takeRow (Cond.code yX1_takeRow cX1_takeRow 2 (some (.object "SyncTree$Row"))) 2 40 [.ref (a0)] σ (.inl (some (va_rf v))) τ := by
  unfold m_X1_takeRow at hm
  obtain ⟨hg, hm⟩ := grw_e hm
  refine tMt_of (n := 0) rfl (Nat.le_of_ble_eq_true rfl) hg ?_
  intro p e s m below meth c C htab hin
  refine zx_lv [0] [(0, .ref (a0))] rfl ?_
  refine zx_aload_n C dX1_takeRow_0 0 rfl ?_
  obtain ⟨k1, i2, hm⟩ := ckO_e hm
  rcases omt_e hm with ⟨a3, h4, hm⟩ | ⟨h4, hm⟩
  · refine zx_get (j := 7) C tC_1 k1 i2 ⟨by decide, Or.inl W_1_187⟩ dX1_takeRow_1 (.ref a3) (rf_s h4) ?_
    refine zx_astore_n C [(1, .ref (a3)), (0, .ref (a0))] dX1_takeRow_4 rfl (by decide) rfl ?_
    refine zx_aload_n C dX1_takeRow_5 0 rfl ?_
    refine zx_ifnonnull C 17 dX1_takeRow_6 (by decide) ?_
    refine zx_aload_n C dX1_takeRow_17 1 rfl ?_
    refine zx_aload_n C dX1_takeRow_18 0 rfl ?_
    obtain ⟨k5, i6, hm⟩ := ckO_e hm
    rcases omt_e hm with ⟨a7, h8, hm⟩ | ⟨h8, hm⟩
    · refine zx_get (j := 1) C tC_4 k5 i6 ⟨by decide, Or.inr ⟨_, W_2_192⟩⟩ dX1_takeRow_19 (.ref a7) (rf_s h8) ?_
      refine zx_put (j := 7) (ρ := sA (σ) (a0) 7 (some (a7))) C tC_1 k1 i2 ⟨by decide, Or.inl W_1_187⟩ rfl rfl rfl (sA_ok (fun _ => rfl)) dX1_takeRow_22 ?_
      refine zx_aload_n C dX1_takeRow_25 0 rfl ?_
      refine zx_null C dX1_takeRow_26 ?_
      refine zx_put (j := 1) (ρ := sA (sA (σ) (a0) 7 (some (a7))) (a3) 1 (none)) C tC_4 k5 i6 ⟨by decide, Or.inr ⟨_, W_2_192⟩⟩ rfl rfl rfl (sA_ok (fun _ => rfl)) dX1_takeRow_27 ?_
      refine zx_aload_n C dX1_takeRow_30 0 rfl ?_
      obtain ⟨rfl, rfl⟩ := ret_e hm
      exact zx_aret (x := some (a3)) C rfl (Or.inl ⟨_, rfl⟩) rfl rfl dX1_takeRow_31
    · refine zx_get (j := 1) C tC_4 k5 i6 ⟨by decide, Or.inr ⟨_, W_2_192⟩⟩ dX1_takeRow_19 .null (rf_n h8) ?_
      refine zx_put (j := 7) (ρ := sA (σ) (a0) 7 (none)) C tC_1 k1 i2 ⟨by decide, Or.inl W_1_187⟩ rfl rfl rfl (sA_ok (fun _ => rfl)) dX1_takeRow_22 ?_
      refine zx_aload_n C dX1_takeRow_25 0 rfl ?_
      refine zx_null C dX1_takeRow_26 ?_
      refine zx_put (j := 1) (ρ := sA (sA (σ) (a0) 7 (none)) (a3) 1 (none)) C tC_4 k5 i6 ⟨by decide, Or.inr ⟨_, W_2_192⟩⟩ rfl rfl rfl (sA_ok (fun _ => rfl)) dX1_takeRow_27 ?_
      refine zx_aload_n C dX1_takeRow_30 0 rfl ?_
      obtain ⟨rfl, rfl⟩ := ret_e hm
      exact zx_aret (x := some (a3)) C rfl (Or.inl ⟨_, rfl⟩) rfl rfl dX1_takeRow_31
  · refine zx_get (j := 7) C tC_1 k1 i2 ⟨by decide, Or.inl W_1_187⟩ dX1_takeRow_1 .null (rf_n h4) ?_
    refine zx_astore_nN C [(1, .null), (0, .ref (a0))] dX1_takeRow_4 rfl (by decide) rfl ?_
    refine zx_aload_nN C dX1_takeRow_5 0 rfl ?_
    refine zx_ifnonnullN C dX1_takeRow_6 ?_
    refine zx_new C tC_4 W_1_179 W_2_184 W_1_13 dX1_takeRow_9 ?_
    refine zx_mem (fun ρ9 hρ9 => ?_)
    replace hm := ltb_e hm hρ9
    refine zx_dup C dX1_takeRow_12 rfl ?_
    obtain ⟨v10, ρ11, h12, hm⟩ := cll_e hm
    refine zx_callIN (σ := ρ9) C [] Y_X4_init W_2_185 W_2_186 rfl (c_X4_init h12) (by decide) (by decide) rfl (Nat.le_of_ble_eq_true rfl) dX1_takeRow_13 rfl ?_
    obtain ⟨rfl, rfl⟩ := ret_e hm
    exact zx_aret (x := some (b0 + tn (σ))) C rfl (Or.inl ⟨_, rfl⟩) rfl rfl dX1_takeRow_16
