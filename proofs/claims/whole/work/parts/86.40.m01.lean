abbrev cX12_record : ByteArray := prog_13_method_20_code
def yX12_record : MethodName := ⟨"SyncTreeModel", "record", "(I)V"⟩
theorem Y_X12_record : tY yX12_record cX12_record 4 none 1 := ⟨W_8_12, W_1_14, ⟨by decide +kernel, by decide +kernel⟩, by decide +kernel⟩
theorem dX12_record_0 : decode cX12_record 0 = .ok (.aload_n 0, 1) := by decide +kernel
theorem dX12_record_1 : decode cX12_record 1 = .ok (.getfield 137, 3) := by decide +kernel
theorem dX12_record_4 : decode cX12_record 4 = .ok (.aload_n 0, 1) := by decide +kernel
theorem dX12_record_5 : decode cX12_record 5 = .ok (.getfield 140, 3) := by decide +kernel
theorem dX12_record_8 : decode cX12_record 8 = .ok (.arraylength, 1) := by decide +kernel
theorem dX12_record_9 : decode cX12_record 9 = .ok (.if_icmp .ne 94, 3) := by decide +kernel
theorem dX12_record_12 : decode cX12_record 12 = .ok (.iconst 2, 1) := by decide +kernel
theorem dX12_record_13 : decode cX12_record 13 = .ok (.aload_n 0, 1) := by decide +kernel
theorem dX12_record_14 : decode cX12_record 14 = .ok (.getfield 137, 3) := by decide +kernel
theorem dX12_record_17 : decode cX12_record 17 = .ok (.imul, 1) := by decide +kernel
theorem dX12_record_18 : decode cX12_record 18 = .ok (.istore_n 2, 1) := by decide +kernel
theorem dX12_record_19 : decode cX12_record 19 = .ok (.aload_n 0, 1) := by decide +kernel
theorem dX12_record_20 : decode cX12_record 20 = .ok (.aload_n 0, 1) := by decide +kernel
theorem dX12_record_21 : decode cX12_record 21 = .ok (.getfield 140, 3) := by decide +kernel
theorem dX12_record_24 : decode cX12_record 24 = .ok (.iload_n 2, 1) := by decide +kernel
theorem dX12_record_25 : decode cX12_record 25 = .ok (.invokestatic 23, 3) := by decide +kernel
theorem dX12_record_28 : decode cX12_record 28 = .ok (.putfield 140, 3) := by decide +kernel
theorem dX12_record_31 : decode cX12_record 31 = .ok (.aload_n 0, 1) := by decide +kernel
theorem dX12_record_32 : decode cX12_record 32 = .ok (.aload_n 0, 1) := by decide +kernel
theorem dX12_record_33 : decode cX12_record 33 = .ok (.getfield 143, 3) := by decide +kernel
theorem dX12_record_36 : decode cX12_record 36 = .ok (.iload_n 2, 1) := by decide +kernel
theorem dX12_record_37 : decode cX12_record 37 = .ok (.invokestatic 23, 3) := by decide +kernel
theorem dX12_record_40 : decode cX12_record 40 = .ok (.putfield 143, 3) := by decide +kernel
theorem dX12_record_43 : decode cX12_record 43 = .ok (.aload_n 0, 1) := by decide +kernel
theorem dX12_record_44 : decode cX12_record 44 = .ok (.aload_n 0, 1) := by decide +kernel
theorem dX12_record_45 : decode cX12_record 45 = .ok (.getfield 125, 3) := by decide +kernel
theorem dX12_record_48 : decode cX12_record 48 = .ok (.iload_n 2, 1) := by decide +kernel
theorem dX12_record_49 : decode cX12_record 49 = .ok (.invokestatic 23, 3) := by decide +kernel
theorem dX12_record_52 : decode cX12_record 52 = .ok (.putfield 125, 3) := by decide +kernel
theorem dX12_record_55 : decode cX12_record 55 = .ok (.aload_n 0, 1) := by decide +kernel
theorem dX12_record_56 : decode cX12_record 56 = .ok (.aload_n 0, 1) := by decide +kernel
theorem dX12_record_57 : decode cX12_record 57 = .ok (.getfield 146, 3) := by decide +kernel
theorem dX12_record_60 : decode cX12_record 60 = .ok (.iload_n 2, 1) := by decide +kernel
theorem dX12_record_61 : decode cX12_record 61 = .ok (.invokestatic 23, 3) := by decide +kernel
theorem dX12_record_64 : decode cX12_record 64 = .ok (.putfield 146, 3) := by decide +kernel
theorem dX12_record_67 : decode cX12_record 67 = .ok (.aload_n 0, 1) := by decide +kernel
theorem dX12_record_68 : decode cX12_record 68 = .ok (.aload_n 0, 1) := by decide +kernel
theorem dX12_record_69 : decode cX12_record 69 = .ok (.getfield 149, 3) := by decide +kernel
theorem dX12_record_72 : decode cX12_record 72 = .ok (.iload_n 2, 1) := by decide +kernel
theorem dX12_record_73 : decode cX12_record 73 = .ok (.invokestatic 23, 3) := by decide +kernel
theorem dX12_record_76 : decode cX12_record 76 = .ok (.putfield 149, 3) := by decide +kernel
theorem dX12_record_79 : decode cX12_record 79 = .ok (.aload_n 0, 1) := by decide +kernel
theorem dX12_record_80 : decode cX12_record 80 = .ok (.aload_n 0, 1) := by decide +kernel
theorem dX12_record_81 : decode cX12_record 81 = .ok (.getfield 152, 3) := by decide +kernel
theorem dX12_record_84 : decode cX12_record 84 = .ok (.iload_n 2, 1) := by decide +kernel
theorem dX12_record_85 : decode cX12_record 85 = .ok (.invokestatic 23, 3) := by decide +kernel
theorem dX12_record_88 : decode cX12_record 88 = .ok (.putfield 152, 3) := by decide +kernel
theorem dX12_record_91 : decode cX12_record 91 = .ok (.aload_n 0, 1) := by decide +kernel
theorem dX12_record_92 : decode cX12_record 92 = .ok (.aload_n 0, 1) := by decide +kernel
theorem dX12_record_93 : decode cX12_record 93 = .ok (.getfield 155, 3) := by decide +kernel
theorem dX12_record_96 : decode cX12_record 96 = .ok (.iload_n 2, 1) := by decide +kernel
theorem dX12_record_97 : decode cX12_record 97 = .ok (.invokestatic 23, 3) := by decide +kernel
theorem dX12_record_100 : decode cX12_record 100 = .ok (.putfield 155, 3) := by decide +kernel
theorem dX12_record_103 : decode cX12_record 103 = .ok (.aload_n 0, 1) := by decide +kernel
theorem dX12_record_104 : decode cX12_record 104 = .ok (.getfield 137, 3) := by decide +kernel
theorem dX12_record_107 : decode cX12_record 107 = .ok (.istore_n 2, 1) := by decide +kernel
theorem dX12_record_108 : decode cX12_record 108 = .ok (.aload_n 0, 1) := by decide +kernel
theorem dX12_record_109 : decode cX12_record 109 = .ok (.dup, 1) := by decide +kernel
theorem dX12_record_110 : decode cX12_record 110 = .ok (.getfield 137, 3) := by decide +kernel
theorem dX12_record_113 : decode cX12_record 113 = .ok (.iconst 1, 1) := by decide +kernel
theorem dX12_record_114 : decode cX12_record 114 = .ok (.iadd, 1) := by decide +kernel
theorem dX12_record_115 : decode cX12_record 115 = .ok (.putfield 137, 3) := by decide +kernel
theorem dX12_record_118 : decode cX12_record 118 = .ok (.aload_n 0, 1) := by decide +kernel
theorem dX12_record_119 : decode cX12_record 119 = .ok (.dup, 1) := by decide +kernel
theorem dX12_record_120 : decode cX12_record 120 = .ok (.getfield 158, 3) := by decide +kernel
theorem dX12_record_123 : decode cX12_record 123 = .ok (.iconst 1, 1) := by decide +kernel
theorem dX12_record_124 : decode cX12_record 124 = .ok (.iadd, 1) := by decide +kernel
theorem dX12_record_125 : decode cX12_record 125 = .ok (.putfield 158, 3) := by decide +kernel
theorem dX12_record_128 : decode cX12_record 128 = .ok (.aload_n 0, 1) := by decide +kernel
theorem dX12_record_129 : decode cX12_record 129 = .ok (.getfield 140, 3) := by decide +kernel
theorem dX12_record_132 : decode cX12_record 132 = .ok (.iload_n 2, 1) := by decide +kernel
theorem dX12_record_133 : decode cX12_record 133 = .ok (.aload_n 0, 1) := by decide +kernel
theorem dX12_record_134 : decode cX12_record 134 = .ok (.getfield 158, 3) := by decide +kernel
theorem dX12_record_137 : decode cX12_record 137 = .ok (.iastore, 1) := by decide +kernel
theorem dX12_record_138 : decode cX12_record 138 = .ok (.aload_n 0, 1) := by decide +kernel
theorem dX12_record_139 : decode cX12_record 139 = .ok (.getfield 143, 3) := by decide +kernel
theorem dX12_record_142 : decode cX12_record 142 = .ok (.iload_n 2, 1) := by decide +kernel
theorem dX12_record_143 : decode cX12_record 143 = .ok (.aload_n 0, 1) := by decide +kernel
theorem dX12_record_144 : decode cX12_record 144 = .ok (.getfield 161, 3) := by decide +kernel
theorem dX12_record_147 : decode cX12_record 147 = .ok (.iastore, 1) := by decide +kernel
theorem dX12_record_148 : decode cX12_record 148 = .ok (.aload_n 0, 1) := by decide +kernel
theorem dX12_record_149 : decode cX12_record 149 = .ok (.getfield 125, 3) := by decide +kernel
theorem dX12_record_152 : decode cX12_record 152 = .ok (.iload_n 2, 1) := by decide +kernel
theorem dX12_record_153 : decode cX12_record 153 = .ok (.iload_n 1, 1) := by decide +kernel
theorem dX12_record_154 : decode cX12_record 154 = .ok (.iastore, 1) := by decide +kernel
theorem dX12_record_155 : decode cX12_record 155 = .ok (.aload_n 0, 1) := by decide +kernel
theorem dX12_record_156 : decode cX12_record 156 = .ok (.getfield 146, 3) := by decide +kernel
theorem dX12_record_159 : decode cX12_record 159 = .ok (.iload_n 2, 1) := by decide +kernel
theorem dX12_record_160 : decode cX12_record 160 = .ok (.aload_n 0, 1) := by decide +kernel
theorem dX12_record_161 : decode cX12_record 161 = .ok (.getfield 17, 3) := by decide +kernel
theorem dX12_record_164 : decode cX12_record 164 = .ok (.iastore, 1) := by decide +kernel
theorem dX12_record_165 : decode cX12_record 165 = .ok (.aload_n 0, 1) := by decide +kernel
theorem dX12_record_166 : decode cX12_record 166 = .ok (.getfield 149, 3) := by decide +kernel
theorem dX12_record_169 : decode cX12_record 169 = .ok (.iload_n 2, 1) := by decide +kernel
theorem dX12_record_170 : decode cX12_record 170 = .ok (.aload_n 0, 1) := by decide +kernel
theorem dX12_record_171 : decode cX12_record 171 = .ok (.getfield 131, 3) := by decide +kernel
theorem dX12_record_174 : decode cX12_record 174 = .ok (.iastore, 1) := by decide +kernel
theorem dX12_record_175 : decode cX12_record 175 = .ok (.iconst 0, 1) := by decide +kernel
theorem dX12_record_176 : decode cX12_record 176 = .ok (.istore_n 3, 1) := by decide +kernel
theorem dX12_record_177 : decode cX12_record 177 = .ok (.iload_n 3, 1) := by decide +kernel
theorem dX12_record_178 : decode cX12_record 178 = .ok (.aload_n 0, 1) := by decide +kernel
theorem dX12_record_179 : decode cX12_record 179 = .ok (.invokevirtual 164, 3) := by decide +kernel
theorem dX12_record_182 : decode cX12_record 182 = .ok (.if_icmp .ge 23, 3) := by decide +kernel
theorem dX12_record_185 : decode cX12_record 185 = .ok (.aload_n 0, 1) := by decide +kernel
theorem dX12_record_186 : decode cX12_record 186 = .ok (.getfield 108, 3) := by decide +kernel
theorem dX12_record_189 : decode cX12_record 189 = .ok (.iload_n 3, 1) := by decide +kernel
theorem dX12_record_190 : decode cX12_record 190 = .ok (.baload, 1) := by decide +kernel
theorem dX12_record_191 : decode cX12_record 191 = .ok (.ifCond .eq 8, 3) := by decide +kernel
theorem dX12_record_194 : decode cX12_record 194 = .ok (.aload_n 0, 1) := by decide +kernel
theorem dX12_record_195 : decode cX12_record 195 = .ok (.iload_n 3, 1) := by decide +kernel
theorem dX12_record_196 : decode cX12_record 196 = .ok (.invokevirtual 168, 3) := by decide +kernel
theorem dX12_record_199 : decode cX12_record 199 = .ok (.iinc 3 1, 3) := by decide +kernel
theorem dX12_record_202 : decode cX12_record 202 = .ok (.goto (-25), 3) := by decide +kernel
theorem dX12_record_205 : decode cX12_record 205 = .ok (.aload_n 0, 1) := by decide +kernel
theorem dX12_record_206 : decode cX12_record 206 = .ok (.getfield 152, 3) := by decide +kernel
theorem dX12_record_209 : decode cX12_record 209 = .ok (.iload_n 2, 1) := by decide +kernel
theorem dX12_record_210 : decode cX12_record 210 = .ok (.aload_n 0, 1) := by decide +kernel
theorem dX12_record_211 : decode cX12_record 211 = .ok (.getfield 131, 3) := by decide +kernel
theorem dX12_record_214 : decode cX12_record 214 = .ok (.aload_n 0, 1) := by decide +kernel
theorem dX12_record_215 : decode cX12_record 215 = .ok (.getfield 149, 3) := by decide +kernel
theorem dX12_record_218 : decode cX12_record 218 = .ok (.iload_n 2, 1) := by decide +kernel
theorem dX12_record_219 : decode cX12_record 219 = .ok (.iaload, 1) := by decide +kernel
theorem dX12_record_220 : decode cX12_record 220 = .ok (.isub, 1) := by decide +kernel
theorem dX12_record_221 : decode cX12_record 221 = .ok (.iastore, 1) := by decide +kernel
theorem dX12_record_222 : decode cX12_record 222 = .ok (.iconst 0, 1) := by decide +kernel
theorem dX12_record_223 : decode cX12_record 223 = .ok (.istore_n 3, 1) := by decide +kernel
theorem dX12_record_224 : decode cX12_record 224 = .ok (.iload_n 3, 1) := by decide +kernel
theorem dX12_record_225 : decode cX12_record 225 = .ok (.aload_n 0, 1) := by decide +kernel
theorem dX12_record_226 : decode cX12_record 226 = .ok (.invokevirtual 164, 3) := by decide +kernel
theorem dX12_record_229 : decode cX12_record 229 = .ok (.if_icmp .ge 23, 3) := by decide +kernel
theorem dX12_record_232 : decode cX12_record 232 = .ok (.aload_n 0, 1) := by decide +kernel
theorem dX12_record_233 : decode cX12_record 233 = .ok (.getfield 116, 3) := by decide +kernel
theorem dX12_record_236 : decode cX12_record 236 = .ok (.iload_n 3, 1) := by decide +kernel
theorem dX12_record_237 : decode cX12_record 237 = .ok (.baload, 1) := by decide +kernel
theorem dX12_record_238 : decode cX12_record 238 = .ok (.ifCond .eq 8, 3) := by decide +kernel
theorem dX12_record_241 : decode cX12_record 241 = .ok (.aload_n 0, 1) := by decide +kernel
theorem dX12_record_242 : decode cX12_record 242 = .ok (.iload_n 3, 1) := by decide +kernel
theorem dX12_record_243 : decode cX12_record 243 = .ok (.invokevirtual 168, 3) := by decide +kernel
theorem dX12_record_246 : decode cX12_record 246 = .ok (.iinc 3 1, 3) := by decide +kernel
theorem dX12_record_249 : decode cX12_record 249 = .ok (.goto (-25), 3) := by decide +kernel
theorem dX12_record_252 : decode cX12_record 252 = .ok (.aload_n 0, 1) := by decide +kernel
theorem dX12_record_253 : decode cX12_record 253 = .ok (.getfield 155, 3) := by decide +kernel
theorem dX12_record_256 : decode cX12_record 256 = .ok (.iload_n 2, 1) := by decide +kernel
theorem dX12_record_257 : decode cX12_record 257 = .ok (.aload_n 0, 1) := by decide +kernel
theorem dX12_record_258 : decode cX12_record 258 = .ok (.getfield 131, 3) := by decide +kernel
theorem dX12_record_261 : decode cX12_record 261 = .ok (.aload_n 0, 1) := by decide +kernel
theorem dX12_record_262 : decode cX12_record 262 = .ok (.getfield 149, 3) := by decide +kernel
theorem dX12_record_265 : decode cX12_record 265 = .ok (.iload_n 2, 1) := by decide +kernel
theorem dX12_record_266 : decode cX12_record 266 = .ok (.iaload, 1) := by decide +kernel
theorem dX12_record_267 : decode cX12_record 267 = .ok (.isub, 1) := by decide +kernel
theorem dX12_record_268 : decode cX12_record 268 = .ok (.aload_n 0, 1) := by decide +kernel
theorem dX12_record_269 : decode cX12_record 269 = .ok (.getfield 152, 3) := by decide +kernel
theorem dX12_record_272 : decode cX12_record 272 = .ok (.iload_n 2, 1) := by decide +kernel
theorem dX12_record_273 : decode cX12_record 273 = .ok (.iaload, 1) := by decide +kernel
theorem dX12_record_274 : decode cX12_record 274 = .ok (.isub, 1) := by decide +kernel
theorem dX12_record_275 : decode cX12_record 275 = .ok (.iastore, 1) := by decide +kernel
theorem dX12_record_276 : decode cX12_record 276 = .ok (.return_, 1) := by decide +kernel
set_option maxRecDepth 100000 in
set_option maxHeartbeats 1000000 in
theorem j_X12_record_246 {p : Program} {l : Launch} {e : Env} {s : State} {m : MethodId} {args : Array Value} {below : List Frame} {meth : Method} {c : Code} {D : va_G} {aC : Nat → ClassId} {b0 fu : Nat} {σ0 τ : tM} {v : Unit} {rc224 : Nat → Int32 → Int32 → tM → Option ((Unit) × tM)} (C : tCx p l s m args meth c yX12_record.cls cX12_record 4 none D aC b0 σ0) (htab : ∀ x ∈ c.exceptionTable.toList, False) (hin : meth.name = yX12_record.name) (hrc224 : ∀ (x0 : Nat) (x2 : Int32) (x3 : Int32) (ρ : tM), rc224 x0 x2 x3 ρ = some (v, τ) → tX p l e s m args below meth c 4 3 69 D aC b0 σ0 (.inl none) τ 224 [(0, .ref (x0)), (2, .int (x2)), (3, .int (x3))] [] ρ) {x0 : Nat} {x2 : Int32} {x3 : Int32} {σ : tM} (hm : J_X12_record_246 b0 fu rc224 x0 x2 x3 σ = some (v, τ)) : tX p l e s m args below meth c 4 3 69 D aC b0 σ0 (.inl none) τ 246 [(0, .ref (x0)), (2, .int (x2)), (3, .int (x3))] [] σ := by
  unfold J_X12_record_246 at hm
  obtain ⟨y104, hy104⟩ : ∃ z : Int32, z = (x3) + Int32.ofInt 1 := ⟨_, rfl⟩
  replace hm := ltb_e hm hy104
  refine zx_iinc C [(3, .int (y104)), (0, .ref (x0)), (2, .int (x2))] dX12_record_246 2 rfl hy104.symm (by decide) rfl ?_
  refine zx_goto C 224 dX12_record_249 (by decide) ?_
  exact zx_lv [1, 2, 0] [(0, .ref (x0)), (2, .int (x2)), (3, .int (y104))] rfl (hrc224 _ _ _ _ hm)
set_option maxRecDepth 100000 in
set_option maxHeartbeats 1000000 in
theorem l_X12_record_224 {p : Program} {l : Launch} {e : Env} {s : State} {m : MethodId} {args : Array Value} {below : List Frame} {meth : Method} {c : Code} {D : va_G} {aC : Nat → ClassId} {b0 fu : Nat} {σ0 τ : tM} {v : Unit}  (C : tCx p l s m args meth c yX12_record.cls cX12_record 4 none D aC b0 σ0) (htab : ∀ x ∈ c.exceptionTable.toList, False) (hin : meth.name = yX12_record.name)  : ∀ (n : Nat) (x0 : Nat) (x2 : Int32) (x3 : Int32) (σ : tM), L_X12_record_224 b0 fu  n x0 x2 x3 σ = some (v, τ) → tX p l e s m args below meth c 4 3 69 D aC b0 σ0 (.inl none) τ 224 [(0, .ref (x0)), (2, .int (x2)), (3, .int (x3))] [] σ := by
  intro n
  induction n with
  | zero => intro x0 x2 x3 σ hm; unfold L_X12_record_224 at hm; cases hm
  | succ n ih =>
    intro x0 x2 x3 σ hm
    unfold L_X12_record_224 at hm
    obtain ⟨rc224, hrc⟩ : ∃ z, z = L_X12_record_224 b0 fu  n := ⟨_, rfl⟩
    replace hm := ltb_e hm hrc
    rw [← hrc] at ih
    have hrc224 := ih
    clear ih hrc
    refine zx_iload_n C dX12_record_224 2 rfl ?_
    refine zx_aload_n C dX12_record_225 0 rfl ?_
    obtain ⟨k69, i70, hm⟩ := ckO_e hm
    obtain ⟨v71, ρ72, h73, hm⟩ := cll_e hm
    refine zx_callV (σ := σ) C [] tC_11 k69 i70 Y_X12_blocks W_6_216 W_6_218 Wp_55 (c_X12_blocks h73) (by decide) (by decide) rfl (Nat.le_of_ble_eq_true rfl) dX12_record_226 rfl ?_
    refine zx_icmp_ge C 252 dX12_record_229 (by decide) (fun c74 => ?_) (fun c74 => ?_)
    · replace hm := ip_e hm c74
      refine zx_aload_n C dX12_record_252 0 rfl ?_
      obtain ⟨k75, i76, hm⟩ := ckO_e hm
      obtain ⟨a77, h78, hm⟩ := osm_e hm
      refine zx_get (j := 43) C tC_11 k75 i76 ⟨by decide, Or.inl W_7_22⟩ dX12_record_253 (.ref a77) (rf_s h78) ?_
      refine zx_iload_n C dX12_record_256 1 rfl ?_
      refine zx_aload_n C dX12_record_257 0 rfl ?_
      refine zx_get (j := 45) C tC_11 k75 i76 ⟨by decide, Or.inl W_7_24⟩ dX12_record_258 (.int (tI (ρ72) (x0) 45)) rfl ?_
      refine zx_aload_n C dX12_record_261 0 rfl ?_
      obtain ⟨a79, h80, hm⟩ := osm_e hm
      refine zx_get (j := 41) C tC_11 k75 i76 ⟨by decide, Or.inl W_7_20⟩ dX12_record_262 (.ref a79) (rf_s h80) ?_
      refine zx_iload_n C dX12_record_265 1 rfl ?_
      obtain ⟨n83, k81, i82, hm⟩ := ckR_e hm
      obtain ⟨h84, hm⟩ := ckI_e hm
      refine zx_iald C k81 i82 h84 dX12_record_266 ?_
      refine zx_isub C dX12_record_267 ?_
      refine zx_aload_n C dX12_record_268 0 rfl ?_
      obtain ⟨a85, h86, hm⟩ := osm_e hm
      refine zx_get (j := 42) C tC_11 k75 i76 ⟨by decide, Or.inl W_7_21⟩ dX12_record_269 (.ref a85) (rf_s h86) ?_
      refine zx_iload_n C dX12_record_272 1 rfl ?_
      obtain ⟨n89, k87, i88, hm⟩ := ckR_e hm
      obtain ⟨h90, hm⟩ := ckI_e hm
      refine zx_iald C k87 i88 h90 dX12_record_273 ?_
      refine zx_isub C dX12_record_274 ?_
      obtain ⟨n93, k91, i92, hm⟩ := ckR_e hm
      obtain ⟨h94, hm⟩ := ckI_e hm
      refine zx_iast C k91 i92 h94 dX12_record_275 ?_
      obtain ⟨rfl, rfl⟩ := ret_e hm
      exact zx_vret C rfl rfl rfl dX12_record_276
    · replace hm := in_e hm c74
      refine zx_aload_n C dX12_record_232 0 rfl ?_
      obtain ⟨k95, i96, hm⟩ := ckO_e hm
      obtain ⟨a97, h98, hm⟩ := osm_e hm
      refine zx_get (j := 27) C tC_11 k95 i96 ⟨by decide, Or.inl W_7_6⟩ dX12_record_233 (.ref a97) (rf_s h98) ?_
      refine zx_iload_n C dX12_record_236 2 rfl ?_
      obtain ⟨n101, k99, i100, hm⟩ := ckR_e hm
      obtain ⟨h102, hm⟩ := ckI_e hm
      refine zx_zald C k99 i100 h102 dX12_record_237 ?_
      refine zx_if_eq C 246 dX12_record_238 (by decide) (fun c103 => ?_) (fun c103 => ?_)
      · replace hm := ip_e hm c103
        exact zx_lv [0, 1, 2] [(0, .ref (x0)), (2, .int (x2)), (3, .int (x3))] rfl (j_X12_record_246 C htab hin hrc224   hm)
      · replace hm := in_e hm c103
        refine zx_aload_n C dX12_record_241 0 rfl ?_
        refine zx_iload_n C dX12_record_242 2 rfl ?_
        obtain ⟨v105, ρ106, h107, hm⟩ := cll_e hm
        refine zx_callV (σ := ρ72) C [.int (x3)] tC_11 k95 i96 Y_X12_list W_8_16 W_8_18 Wp_74 (c_X12_list h107) (by decide) (by decide) rfl (Nat.le_of_ble_eq_true rfl) dX12_record_243 rfl ?_
        exact zx_lv [0, 1, 2] [(0, .ref (x0)), (2, .int (x2)), (3, .int (x3))] rfl (j_X12_record_246 C htab hin hrc224   hm)
set_option maxRecDepth 100000 in
set_option maxHeartbeats 1000000 in
theorem j_X12_record_199 {p : Program} {l : Launch} {e : Env} {s : State} {m : MethodId} {args : Array Value} {below : List Frame} {meth : Method} {c : Code} {D : va_G} {aC : Nat → ClassId} {b0 fu : Nat} {σ0 τ : tM} {v : Unit} {rc177 : Nat → Int32 → Int32 → tM → Option ((Unit) × tM)} (C : tCx p l s m args meth c yX12_record.cls cX12_record 4 none D aC b0 σ0) (htab : ∀ x ∈ c.exceptionTable.toList, False) (hin : meth.name = yX12_record.name) (hrc177 : ∀ (x0 : Nat) (x2 : Int32) (x3 : Int32) (ρ : tM), rc177 x0 x2 x3 ρ = some (v, τ) → tX p l e s m args below meth c 4 3 69 D aC b0 σ0 (.inl none) τ 177 [(0, .ref (x0)), (2, .int (x2)), (3, .int (x3))] [] ρ) {x0 : Nat} {x2 : Int32} {x3 : Int32} {σ : tM} (hm : J_X12_record_199 b0 fu rc177 x0 x2 x3 σ = some (v, τ)) : tX p l e s m args below meth c 4 3 69 D aC b0 σ0 (.inl none) τ 199 [(0, .ref (x0)), (2, .int (x2)), (3, .int (x3))] [] σ := by
  unfold J_X12_record_199 at hm
  obtain ⟨y117, hy117⟩ : ∃ z : Int32, z = (x3) + Int32.ofInt 1 := ⟨_, rfl⟩
  replace hm := ltb_e hm hy117
  refine zx_iinc C [(3, .int (y117)), (0, .ref (x0)), (2, .int (x2))] dX12_record_199 2 rfl hy117.symm (by decide) rfl ?_
  refine zx_goto C 177 dX12_record_202 (by decide) ?_
  exact zx_lv [1, 2, 0] [(0, .ref (x0)), (2, .int (x2)), (3, .int (y117))] rfl (hrc177 _ _ _ _ hm)
set_option maxRecDepth 100000 in
set_option maxHeartbeats 1000000 in
theorem l_X12_record_177 {p : Program} {l : Launch} {e : Env} {s : State} {m : MethodId} {args : Array Value} {below : List Frame} {meth : Method} {c : Code} {D : va_G} {aC : Nat → ClassId} {b0 fu : Nat} {σ0 τ : tM} {v : Unit}  (C : tCx p l s m args meth c yX12_record.cls cX12_record 4 none D aC b0 σ0) (htab : ∀ x ∈ c.exceptionTable.toList, False) (hin : meth.name = yX12_record.name)  : ∀ (n : Nat) (x0 : Nat) (x2 : Int32) (x3 : Int32) (σ : tM), L_X12_record_177 b0 fu  n x0 x2 x3 σ = some (v, τ) → tX p l e s m args below meth c 4 3 69 D aC b0 σ0 (.inl none) τ 177 [(0, .ref (x0)), (2, .int (x2)), (3, .int (x3))] [] σ := by
  intro n
  induction n with
  | zero => intro x0 x2 x3 σ hm; unfold L_X12_record_177 at hm; cases hm
  | succ n ih =>
    intro x0 x2 x3 σ hm
    unfold L_X12_record_177 at hm
    obtain ⟨rc177, hrc⟩ : ∃ z, z = L_X12_record_177 b0 fu  n := ⟨_, rfl⟩
    replace hm := ltb_e hm hrc
    rw [← hrc] at ih
    have hrc177 := ih
    clear ih hrc
    refine zx_iload_n C dX12_record_177 2 rfl ?_
    refine zx_aload_n C dX12_record_178 0 rfl ?_
    obtain ⟨k49, i50, hm⟩ := ckO_e hm
    obtain ⟨v51, ρ52, h53, hm⟩ := cll_e hm
    refine zx_callV (σ := σ) C [] tC_11 k49 i50 Y_X12_blocks W_6_216 W_6_218 Wp_55 (c_X12_blocks h53) (by decide) (by decide) rfl (Nat.le_of_ble_eq_true rfl) dX12_record_179 rfl ?_
    refine zx_icmp_ge C 205 dX12_record_182 (by decide) (fun c54 => ?_) (fun c54 => ?_)
    · replace hm := ip_e hm c54
      refine zx_aload_n C dX12_record_205 0 rfl ?_
      obtain ⟨k55, i56, hm⟩ := ckO_e hm
      obtain ⟨a57, h58, hm⟩ := osm_e hm
      refine zx_get (j := 42) C tC_11 k55 i56 ⟨by decide, Or.inl W_7_21⟩ dX12_record_206 (.ref a57) (rf_s h58) ?_
      refine zx_iload_n C dX12_record_209 1 rfl ?_
      refine zx_aload_n C dX12_record_210 0 rfl ?_
      refine zx_get (j := 45) C tC_11 k55 i56 ⟨by decide, Or.inl W_7_24⟩ dX12_record_211 (.int (tI (ρ52) (x0) 45)) rfl ?_
      refine zx_aload_n C dX12_record_214 0 rfl ?_
      obtain ⟨a59, h60, hm⟩ := osm_e hm
      refine zx_get (j := 41) C tC_11 k55 i56 ⟨by decide, Or.inl W_7_20⟩ dX12_record_215 (.ref a59) (rf_s h60) ?_
      refine zx_iload_n C dX12_record_218 1 rfl ?_
      obtain ⟨n63, k61, i62, hm⟩ := ckR_e hm
      obtain ⟨h64, hm⟩ := ckI_e hm
      refine zx_iald C k61 i62 h64 dX12_record_219 ?_
      refine zx_isub C dX12_record_220 ?_
      obtain ⟨n67, k65, i66, hm⟩ := ckR_e hm
      obtain ⟨h68, hm⟩ := ckI_e hm
      refine zx_iast C k65 i66 h68 dX12_record_221 ?_
      refine zx_iconst (v := 0) C dX12_record_222 (by decide) ?_
      refine zx_istore_n C [(3, .int (0)), (0, .ref (x0)), (2, .int (x2))] dX12_record_223 rfl (by decide) rfl ?_
      exact zx_lv [1, 2, 0] [(0, .ref (x0)), (2, .int (x2)), (3, .int (0))] rfl (l_X12_record_224 C htab hin  _ _ _ _ _ hm)
    · replace hm := in_e hm c54
      refine zx_aload_n C dX12_record_185 0 rfl ?_
      obtain ⟨k108, i109, hm⟩ := ckO_e hm
      obtain ⟨a110, h111, hm⟩ := osm_e hm
      refine zx_get (j := 26) C tC_11 k108 i109 ⟨by decide, Or.inl W_7_5⟩ dX12_record_186 (.ref a110) (rf_s h111) ?_
      refine zx_iload_n C dX12_record_189 2 rfl ?_
      obtain ⟨n114, k112, i113, hm⟩ := ckR_e hm
      obtain ⟨h115, hm⟩ := ckI_e hm
      refine zx_zald C k112 i113 h115 dX12_record_190 ?_
      refine zx_if_eq C 199 dX12_record_191 (by decide) (fun c116 => ?_) (fun c116 => ?_)
      · replace hm := ip_e hm c116
        exact zx_lv [0, 1, 2] [(0, .ref (x0)), (2, .int (x2)), (3, .int (x3))] rfl (j_X12_record_199 C htab hin hrc177   hm)
      · replace hm := in_e hm c116
        refine zx_aload_n C dX12_record_194 0 rfl ?_
        refine zx_iload_n C dX12_record_195 2 rfl ?_
        obtain ⟨v118, ρ119, h120, hm⟩ := cll_e hm
        refine zx_callV (σ := ρ52) C [.int (x3)] tC_11 k108 i109 Y_X12_list W_8_16 W_8_18 Wp_74 (c_X12_list h120) (by decide) (by decide) rfl (Nat.le_of_ble_eq_true rfl) dX12_record_196 rfl ?_
        exact zx_lv [0, 1, 2] [(0, .ref (x0)), (2, .int (x2)), (3, .int (x3))] rfl (j_X12_record_199 C htab hin hrc177   hm)
set_option maxRecDepth 100000 in
set_option maxHeartbeats 1000000 in
theorem j_X12_record_155 {p : Program} {l : Launch} {e : Env} {s : State} {m : MethodId} {args : Array Value} {below : List Frame} {meth : Method} {c : Code} {D : va_G} {aC : Nat → ClassId} {b0 fu : Nat} {σ0 τ : tM} {v : Unit}  (C : tCx p l s m args meth c yX12_record.cls cX12_record 4 none D aC b0 σ0) (htab : ∀ x ∈ c.exceptionTable.toList, False) (hin : meth.name = yX12_record.name)  {x0 : Nat} {x2 : Int32} {σ : tM} (hm : J_X12_record_155 b0 fu  x0 x2 σ = some (v, τ)) : tX p l e s m args below meth c 4 3 69 D aC b0 σ0 (.inl none) τ 155 [(0, .ref (x0)), (2, .int (x2))] [] σ := by
  unfold J_X12_record_155 at hm
  refine zx_aload_n C dX12_record_155 0 rfl ?_
  obtain ⟨k35, i36, hm⟩ := ckO_e hm
  obtain ⟨a37, h38, hm⟩ := osm_e hm
  refine zx_get (j := 40) C tC_11 k35 i36 ⟨by decide, Or.inl W_7_19⟩ dX12_record_156 (.ref a37) (rf_s h38) ?_
  refine zx_iload_n C dX12_record_159 1 rfl ?_
  refine zx_aload_n C dX12_record_160 0 rfl ?_
  refine zx_get (j := 4) C tC_11 k35 i36 ⟨by decide, Or.inl W_6_224⟩ dX12_record_161 (.int (tI (σ) (x0) 4)) rfl ?_
  obtain ⟨n41, k39, i40, hm⟩ := ckR_e hm
  obtain ⟨h42, hm⟩ := ckI_e hm
  refine zx_iast C k39 i40 h42 dX12_record_164 ?_
  refine zx_aload_n C dX12_record_165 0 rfl ?_
  obtain ⟨a43, h44, hm⟩ := osm_e hm
  refine zx_get (j := 41) C tC_11 k35 i36 ⟨by decide, Or.inl W_7_20⟩ dX12_record_166 (.ref a43) (rf_s h44) ?_
  refine zx_iload_n C dX12_record_169 1 rfl ?_
  refine zx_aload_n C dX12_record_170 0 rfl ?_
  refine zx_get (j := 45) C tC_11 k35 i36 ⟨by decide, Or.inl W_7_24⟩ dX12_record_171 (.int (tI (sI (σ) (a37) ((x2).toNatClampNeg) (tI (σ) (x0) 4)) (x0) 45)) rfl ?_
  obtain ⟨n47, k45, i46, hm⟩ := ckR_e hm
  obtain ⟨h48, hm⟩ := ckI_e hm
  refine zx_iast C k45 i46 h48 dX12_record_174 ?_
  refine zx_iconst (v := 0) C dX12_record_175 (by decide) ?_
  refine zx_istore_n C [(3, .int (0)), (0, .ref (x0)), (2, .int (x2))] dX12_record_176 rfl (by decide) rfl ?_
  exact zx_lv [1, 2, 0] [(0, .ref (x0)), (2, .int (x2)), (3, .int (0))] rfl (l_X12_record_177 C htab hin  _ _ _ _ _ hm)
set_option maxRecDepth 100000 in
set_option maxHeartbeats 1000000 in
theorem j_X12_record_103 {p : Program} {l : Launch} {e : Env} {s : State} {m : MethodId} {args : Array Value} {below : List Frame} {meth : Method} {c : Code} {D : va_G} {aC : Nat → ClassId} {b0 fu : Nat} {σ0 τ : tM} {v : Unit}  (C : tCx p l s m args meth c yX12_record.cls cX12_record 4 none D aC b0 σ0) (htab : ∀ x ∈ c.exceptionTable.toList, False) (hin : meth.name = yX12_record.name)  {x0 : Nat} {x1 : Int32} {σ : tM} (hm : J_X12_record_103 b0 fu  x0 x1 σ = some (v, τ)) : tX p l e s m args below meth c 4 3 69 D aC b0 σ0 (.inl none) τ 103 [(0, .ref (x0)), (1, .int (x1))] [] σ := by
  unfold J_X12_record_103 at hm
  refine zx_aload_n C dX12_record_103 0 rfl ?_
  obtain ⟨k9, i10, hm⟩ := ckO_e hm
  refine zx_get (j := 36) C tC_11 k9 i10 ⟨by decide, Or.inl W_7_15⟩ dX12_record_104 (.int (tI (σ) (x0) 36)) rfl ?_
  refine zx_topi (fun y11 hy11 => ?_)
  replace hm := ltb_e hm hy11
  refine zx_istore_n C [(2, .int (y11)), (0, .ref (x0)), (1, .int (x1))] dX12_record_107 rfl (by decide) rfl ?_
  refine zx_aload_n C dX12_record_108 1 rfl ?_
  refine zx_dup C dX12_record_109 rfl ?_
  refine zx_get (j := 36) C tC_11 k9 i10 ⟨by decide, Or.inl W_7_15⟩ dX12_record_110 (.int (tI (σ) (x0) 36)) rfl ?_
  refine zx_iconst (v := 1) C dX12_record_113 (by decide) ?_
  refine zx_iadd C dX12_record_114 ?_
  refine zx_put (j := 36) (ρ := sI (σ) (x0) 36 ((tI (σ) (x0) 36) + (1))) C tC_11 k9 i10 ⟨by decide, Or.inl W_7_15⟩ rfl rfl rfl (sI_ok (fun _ => rfl)) dX12_record_115 ?_
  refine zx_aload_n C dX12_record_118 1 rfl ?_
  refine zx_dup C dX12_record_119 rfl ?_
  refine zx_get (j := 34) C tC_11 k9 i10 ⟨by decide, Or.inl W_7_13⟩ dX12_record_120 (.int (tI (sI (σ) (x0) 36 ((tI (σ) (x0) 36) + (1))) (x0) 34)) rfl ?_
  refine zx_iconst (v := 1) C dX12_record_123 (by decide) ?_
  refine zx_iadd C dX12_record_124 ?_
  refine zx_put (j := 34) (ρ := sI (sI (σ) (x0) 36 ((tI (σ) (x0) 36) + (1))) (x0) 34 ((tI (sI (σ) (x0) 36 ((tI (σ) (x0) 36) + (1))) (x0) 34) + (1))) C tC_11 k9 i10 ⟨by decide, Or.inl W_7_13⟩ rfl rfl rfl (sI_ok (fun _ => rfl)) dX12_record_125 ?_
  refine zx_aload_n C dX12_record_128 1 rfl ?_
  obtain ⟨a12, h13, hm⟩ := osm_e hm
  refine zx_get (j := 37) C tC_11 k9 i10 ⟨by decide, Or.inl W_7_16⟩ dX12_record_129 (.ref a12) (rf_s h13) ?_
  refine zx_iload_n C dX12_record_132 0 rfl ?_
  refine zx_aload_n C dX12_record_133 1 rfl ?_
  refine zx_get (j := 34) C tC_11 k9 i10 ⟨by decide, Or.inl W_7_13⟩ dX12_record_134 (.int (tI (sI (sI (σ) (x0) 36 ((tI (σ) (x0) 36) + (1))) (x0) 34 ((tI (sI (σ) (x0) 36 ((tI (σ) (x0) 36) + (1))) (x0) 34) + (1))) (x0) 34)) rfl ?_
  obtain ⟨n16, k14, i15, hm⟩ := ckR_e hm
  obtain ⟨h17, hm⟩ := ckI_e hm
  refine zx_iast C k14 i15 h17 dX12_record_137 ?_
  refine zx_mem (fun ρ18 hρ18 => ?_)
  replace hm := ltb_e hm hρ18
  have k19 : tk ρ18 (x0) = .inl 11 := by rw [hρ18]; exact k9
  have i20 : tIn b0 ρ18 (x0) := by rw [hρ18]; exact i10
  have k21 : tk ρ18 (a12) = .inr (0, n16) := by rw [hρ18]; exact k14
  have i22 : tIn b0 ρ18 (a12) := by rw [hρ18]; exact i15
  refine zx_aload_n C dX12_record_138 1 rfl ?_
  obtain ⟨a23, h24, hm⟩ := osm_e hm
  refine zx_get (j := 38) C tC_11 k19 i20 ⟨by decide, Or.inl W_7_17⟩ dX12_record_139 (.ref a23) (rf_s h24) ?_
  refine zx_iload_n C dX12_record_142 0 rfl ?_
  refine zx_aload_n C dX12_record_143 1 rfl ?_
  refine zx_get (j := 33) C tC_11 k19 i20 ⟨by decide, Or.inl W_7_12⟩ dX12_record_144 (.int (tI (ρ18) (x0) 33)) rfl ?_
  obtain ⟨n27, k25, i26, hm⟩ := ckR_e hm
  obtain ⟨h28, hm⟩ := ckI_e hm
  refine zx_iast C k25 i26 h28 dX12_record_147 ?_
  refine zx_aload_n C dX12_record_148 1 rfl ?_
  obtain ⟨a29, h30, hm⟩ := osm_e hm
  refine zx_get (j := 39) C tC_11 k19 i20 ⟨by decide, Or.inl W_7_18⟩ dX12_record_149 (.ref a29) (rf_s h30) ?_
  refine zx_iload_n C dX12_record_152 0 rfl ?_
  refine zx_iload_n C dX12_record_153 2 rfl ?_
  obtain ⟨n33, k31, i32, hm⟩ := ckR_e hm
  obtain ⟨h34, hm⟩ := ckI_e hm
  refine zx_iast C k31 i32 h34 dX12_record_154 ?_
  exact zx_lv [1, 0] [(0, .ref (x0)), (2, .int (y11))] rfl (j_X12_record_155 C htab hin    hm)
set_option maxRecDepth 100000 in
set_option maxHeartbeats 1000000 in
theorem j_X12_record_55 {p : Program} {l : Launch} {e : Env} {s : State} {m : MethodId} {args : Array Value} {below : List Frame} {meth : Method} {c : Code} {D : va_G} {aC : Nat → ClassId} {b0 fu : Nat} {σ0 τ : tM} {v : Unit}  (C : tCx p l s m args meth c yX12_record.cls cX12_record 4 none D aC b0 σ0) (htab : ∀ x ∈ c.exceptionTable.toList, False) (hin : meth.name = yX12_record.name)  {x0 : Nat} {x1 : Int32} {x2 : Int32} {σ : tM} (hm : J_X12_record_55 b0 fu  x0 x1 x2 σ = some (v, τ)) : tX p l e s m args below meth c 4 3 69 D aC b0 σ0 (.inl none) τ 55 [(0, .ref (x0)), (1, .int (x1)), (2, .int (x2))] [] σ := by
  unfold J_X12_record_55 at hm
  refine zx_aload_n C dX12_record_55 0 rfl ?_
  refine zx_aload_n C dX12_record_56 0 rfl ?_
  obtain ⟨k149, i150, hm⟩ := ckO_e hm
  obtain ⟨a151, h152, hm⟩ := osm_e hm
  refine zx_get (j := 40) C tC_11 k149 i150 ⟨by decide, Or.inl W_7_19⟩ dX12_record_57 (.ref a151) (rf_s h152) ?_
  refine zx_iload_n C dX12_record_60 2 rfl ?_
  obtain ⟨v153, ρ154, h155, hm⟩ := cll_e hm
  obtain ⟨a156, h157, hm⟩ := osm_e hm
  subst h157
  refine zx_callS (σ := σ) C [.ref (a151), .int (x2)] Y_X12_longer W_8_13 W_8_14 (c_X12_longer h155) (by decide) (by decide) rfl (Nat.le_of_ble_eq_true rfl) dX12_record_61 rfl ?_
  obtain ⟨k158, i159, hm⟩ := ckO_e hm
  refine zx_put (j := 40) (ρ := sA (ρ154) (x0) 40 (some (a156))) C tC_11 k158 i159 ⟨by decide, Or.inl W_7_19⟩ rfl rfl rfl (sA_ok (fun _ => rfl)) dX12_record_64 ?_
  refine zx_aload_n C dX12_record_67 0 rfl ?_
  refine zx_aload_n C dX12_record_68 0 rfl ?_
  obtain ⟨a160, h161, hm⟩ := osm_e hm
  refine zx_get (j := 41) C tC_11 k158 i159 ⟨by decide, Or.inl W_7_20⟩ dX12_record_69 (.ref a160) (rf_s h161) ?_
  refine zx_iload_n C dX12_record_72 2 rfl ?_
  obtain ⟨v162, ρ163, h164, hm⟩ := cll_e hm
  obtain ⟨a165, h166, hm⟩ := osm_e hm
  subst h166
  refine zx_callS (σ := sA (ρ154) (x0) 40 (some (a156))) C [.ref (a160), .int (x2)] Y_X12_longer W_8_13 W_8_14 (c_X12_longer h164) (by decide) (by decide) rfl (Nat.le_of_ble_eq_true rfl) dX12_record_73 rfl ?_
  obtain ⟨k167, i168, hm⟩ := ckO_e hm
  refine zx_put (j := 41) (ρ := sA (ρ163) (x0) 41 (some (a165))) C tC_11 k167 i168 ⟨by decide, Or.inl W_7_20⟩ rfl rfl rfl (sA_ok (fun _ => rfl)) dX12_record_76 ?_
  refine zx_aload_n C dX12_record_79 0 rfl ?_
  refine zx_aload_n C dX12_record_80 0 rfl ?_
  obtain ⟨a169, h170, hm⟩ := osm_e hm
  refine zx_get (j := 42) C tC_11 k167 i168 ⟨by decide, Or.inl W_7_21⟩ dX12_record_81 (.ref a169) (rf_s h170) ?_
  refine zx_iload_n C dX12_record_84 2 rfl ?_
  obtain ⟨v171, ρ172, h173, hm⟩ := cll_e hm
  obtain ⟨a174, h175, hm⟩ := osm_e hm
  subst h175
  refine zx_callS (σ := sA (ρ163) (x0) 41 (some (a165))) C [.ref (a169), .int (x2)] Y_X12_longer W_8_13 W_8_14 (c_X12_longer h173) (by decide) (by decide) rfl (Nat.le_of_ble_eq_true rfl) dX12_record_85 rfl ?_
  obtain ⟨k176, i177, hm⟩ := ckO_e hm
  refine zx_put (j := 42) (ρ := sA (ρ172) (x0) 42 (some (a174))) C tC_11 k176 i177 ⟨by decide, Or.inl W_7_21⟩ rfl rfl rfl (sA_ok (fun _ => rfl)) dX12_record_88 ?_
  refine zx_aload_n C dX12_record_91 0 rfl ?_
  refine zx_aload_n C dX12_record_92 0 rfl ?_
  obtain ⟨a178, h179, hm⟩ := osm_e hm
  refine zx_get (j := 43) C tC_11 k176 i177 ⟨by decide, Or.inl W_7_22⟩ dX12_record_93 (.ref a178) (rf_s h179) ?_
  refine zx_iload_n C dX12_record_96 2 rfl ?_
  obtain ⟨v180, ρ181, h182, hm⟩ := cll_e hm
  obtain ⟨a183, h184, hm⟩ := osm_e hm
  subst h184
  refine zx_callS (σ := sA (ρ172) (x0) 42 (some (a174))) C [.ref (a178), .int (x2)] Y_X12_longer W_8_13 W_8_14 (c_X12_longer h182) (by decide) (by decide) rfl (Nat.le_of_ble_eq_true rfl) dX12_record_97 rfl ?_
  obtain ⟨k185, i186, hm⟩ := ckO_e hm
  refine zx_put (j := 43) (ρ := sA (ρ181) (x0) 43 (some (a183))) C tC_11 k185 i186 ⟨by decide, Or.inl W_7_22⟩ rfl rfl rfl (sA_ok (fun _ => rfl)) dX12_record_100 ?_
  exact zx_lv [0, 1] [(0, .ref (x0)), (1, .int (x1))] rfl (j_X12_record_103 C htab hin    hm)
set_option maxRecDepth 100000 in
set_option maxHeartbeats 1000000 in
theorem c_X12_record {l : Launch} {D : va_G} {aC : Nat → ClassId} {b0 fu : Nat} {a0 : Nat} {p0 : Int32} {σ τ : tM} {v : Unit} (hm : m_X12_record b0 fu a0 p0 σ = some (v, τ)) : tMt l D aC b0 yX12_record (Cond.code yX12_record cX12_record 4 none) 3 69 [.ref (a0), .int (p0)] σ (.inl none) τ := by
  unfold m_X12_record at hm
  obtain ⟨hg, hm⟩ := grw_e hm
  refine tMt_of (n := 0) rfl (Nat.le_of_ble_eq_true rfl) hg ?_
  intro p e s m below meth c C htab hin
  refine zx_lv [0, 1] [(0, .ref (a0)), (1, .int (p0))] rfl ?_
  refine zx_aload_n C dX12_record_0 0 rfl ?_
  obtain ⟨k1, i2, hm⟩ := ckO_e hm
  refine zx_get (j := 36) C tC_11 k1 i2 ⟨by decide, Or.inl W_7_15⟩ dX12_record_1 (.int (tI (σ) (a0) 36)) rfl ?_
  refine zx_aload_n C dX12_record_4 0 rfl ?_
  obtain ⟨a3, h4, hm⟩ := osm_e hm
  refine zx_get (j := 37) C tC_11 k1 i2 ⟨by decide, Or.inl W_7_16⟩ dX12_record_5 (.ref a3) (rf_s h4) ?_
  obtain ⟨n7, k5, i6, hm⟩ := ckR_e hm
  refine zx_alen C k5 (by decide) i6 dX12_record_8 ?_
  refine zx_icmp_ne C 103 dX12_record_9 (by decide) (fun c8 => ?_) (fun c8 => ?_)
  · replace hm := in_e hm c8
    exact zx_lv [0, 1] [(0, .ref (a0)), (1, .int (p0))] rfl (j_X12_record_103 C htab hin    hm)
  · replace hm := ip_e hm c8
    refine zx_iconst (v := 2) C dX12_record_12 (by decide) ?_
    refine zx_aload_n C dX12_record_13 0 rfl ?_
    refine zx_get (j := 36) C tC_11 k1 i2 ⟨by decide, Or.inl W_7_15⟩ dX12_record_14 (.int (tI (σ) (a0) 36)) rfl ?_
    refine zx_imul C dX12_record_17 ?_
    refine zx_topi (fun y121 hy121 => ?_)
    replace hm := ltb_e hm hy121
    refine zx_istore_n C [(2, .int (y121)), (0, .ref (a0)), (1, .int (p0))] dX12_record_18 rfl (by decide) rfl ?_
    refine zx_aload_n C dX12_record_19 1 rfl ?_
    refine zx_aload_n C dX12_record_20 1 rfl ?_
    obtain ⟨a122, h123, hm⟩ := osm_e hm
    refine zx_get (j := 37) C tC_11 k1 i2 ⟨by decide, Or.inl W_7_16⟩ dX12_record_21 (.ref a122) (rf_s h123) ?_
    refine zx_iload_n C dX12_record_24 0 rfl ?_
    obtain ⟨v124, ρ125, h126, hm⟩ := cll_e hm
    obtain ⟨a127, h128, hm⟩ := osm_e hm
    subst h128
    refine zx_callS (σ := σ) C [.ref (a122), .int (y121)] Y_X12_longer W_8_13 W_8_14 (c_X12_longer h126) (by decide) (by decide) rfl (Nat.le_of_ble_eq_true rfl) dX12_record_25 rfl ?_
    obtain ⟨k129, i130, hm⟩ := ckO_e hm
    refine zx_put (j := 37) (ρ := sA (ρ125) (a0) 37 (some (a127))) C tC_11 k129 i130 ⟨by decide, Or.inl W_7_16⟩ rfl rfl rfl (sA_ok (fun _ => rfl)) dX12_record_28 ?_
    refine zx_aload_n C dX12_record_31 1 rfl ?_
    refine zx_aload_n C dX12_record_32 1 rfl ?_
    obtain ⟨a131, h132, hm⟩ := osm_e hm
    refine zx_get (j := 38) C tC_11 k129 i130 ⟨by decide, Or.inl W_7_17⟩ dX12_record_33 (.ref a131) (rf_s h132) ?_
    refine zx_iload_n C dX12_record_36 0 rfl ?_
    obtain ⟨v133, ρ134, h135, hm⟩ := cll_e hm
    obtain ⟨a136, h137, hm⟩ := osm_e hm
    subst h137
    refine zx_callS (σ := sA (ρ125) (a0) 37 (some (a127))) C [.ref (a131), .int (y121)] Y_X12_longer W_8_13 W_8_14 (c_X12_longer h135) (by decide) (by decide) rfl (Nat.le_of_ble_eq_true rfl) dX12_record_37 rfl ?_
    obtain ⟨k138, i139, hm⟩ := ckO_e hm
    refine zx_put (j := 38) (ρ := sA (ρ134) (a0) 38 (some (a136))) C tC_11 k138 i139 ⟨by decide, Or.inl W_7_17⟩ rfl rfl rfl (sA_ok (fun _ => rfl)) dX12_record_40 ?_
    refine zx_aload_n C dX12_record_43 1 rfl ?_
    refine zx_aload_n C dX12_record_44 1 rfl ?_
    obtain ⟨a140, h141, hm⟩ := osm_e hm
    refine zx_get (j := 39) C tC_11 k138 i139 ⟨by decide, Or.inl W_7_18⟩ dX12_record_45 (.ref a140) (rf_s h141) ?_
    refine zx_iload_n C dX12_record_48 0 rfl ?_
    obtain ⟨v142, ρ143, h144, hm⟩ := cll_e hm
    obtain ⟨a145, h146, hm⟩ := osm_e hm
    subst h146
    refine zx_callS (σ := sA (ρ134) (a0) 38 (some (a136))) C [.ref (a140), .int (y121)] Y_X12_longer W_8_13 W_8_14 (c_X12_longer h144) (by decide) (by decide) rfl (Nat.le_of_ble_eq_true rfl) dX12_record_49 rfl ?_
    obtain ⟨k147, i148, hm⟩ := ckO_e hm
    refine zx_put (j := 39) (ρ := sA (ρ143) (a0) 39 (some (a145))) C tC_11 k147 i148 ⟨by decide, Or.inl W_7_18⟩ rfl rfl rfl (sA_ok (fun _ => rfl)) dX12_record_52 ?_
    exact zx_lv [1, 2, 0] [(0, .ref (a0)), (1, .int (p0)), (2, .int (y121))] rfl (j_X12_record_55 C htab hin    hm)
abbrev cX12_emptyGroup : ByteArray := prog_13_method_22_code
def yX12_emptyGroup : MethodName := ⟨"SyncTreeModel", "emptyGroup", "()V"⟩
theorem Y_X12_emptyGroup : tY yX12_emptyGroup cX12_emptyGroup 2 none 0 := ⟨W_6_215, W_1_14, ⟨by decide +kernel, by decide +kernel⟩, by decide +kernel⟩
theorem dX12_emptyGroup_0 : decode cX12_emptyGroup 0 = .ok (.iconst 0, 1) := by decide +kernel
theorem dX12_emptyGroup_1 : decode cX12_emptyGroup 1 = .ok (.istore_n 1, 1) := by decide +kernel
theorem dX12_emptyGroup_2 : decode cX12_emptyGroup 2 = .ok (.iload_n 1, 1) := by decide +kernel
theorem dX12_emptyGroup_3 : decode cX12_emptyGroup 3 = .ok (.aload_n 0, 1) := by decide +kernel
theorem dX12_emptyGroup_4 : decode cX12_emptyGroup 4 = .ok (.getfield 108, 3) := by decide +kernel
theorem dX12_emptyGroup_7 : decode cX12_emptyGroup 7 = .ok (.arraylength, 1) := by decide +kernel
theorem dX12_emptyGroup_8 : decode cX12_emptyGroup 8 = .ok (.if_icmp .ge 23, 3) := by decide +kernel
theorem dX12_emptyGroup_11 : decode cX12_emptyGroup 11 = .ok (.aload_n 0, 1) := by decide +kernel
theorem dX12_emptyGroup_12 : decode cX12_emptyGroup 12 = .ok (.getfield 108, 3) := by decide +kernel
theorem dX12_emptyGroup_15 : decode cX12_emptyGroup 15 = .ok (.iload_n 1, 1) := by decide +kernel
theorem dX12_emptyGroup_16 : decode cX12_emptyGroup 16 = .ok (.iconst 0, 1) := by decide +kernel
theorem dX12_emptyGroup_17 : decode cX12_emptyGroup 17 = .ok (.bastore, 1) := by decide +kernel
theorem dX12_emptyGroup_18 : decode cX12_emptyGroup 18 = .ok (.aload_n 0, 1) := by decide +kernel
theorem dX12_emptyGroup_19 : decode cX12_emptyGroup 19 = .ok (.getfield 116, 3) := by decide +kernel
theorem dX12_emptyGroup_22 : decode cX12_emptyGroup 22 = .ok (.iload_n 1, 1) := by decide +kernel
theorem dX12_emptyGroup_23 : decode cX12_emptyGroup 23 = .ok (.iconst 0, 1) := by decide +kernel
theorem dX12_emptyGroup_24 : decode cX12_emptyGroup 24 = .ok (.bastore, 1) := by decide +kernel
theorem dX12_emptyGroup_25 : decode cX12_emptyGroup 25 = .ok (.iinc 1 1, 3) := by decide +kernel
theorem dX12_emptyGroup_28 : decode cX12_emptyGroup 28 = .ok (.goto (-26), 3) := by decide +kernel
theorem dX12_emptyGroup_31 : decode cX12_emptyGroup 31 = .ok (.iconst 0, 1) := by decide +kernel
theorem dX12_emptyGroup_32 : decode cX12_emptyGroup 32 = .ok (.istore_n 1, 1) := by decide +kernel
theorem dX12_emptyGroup_33 : decode cX12_emptyGroup 33 = .ok (.iload_n 1, 1) := by decide +kernel
theorem dX12_emptyGroup_34 : decode cX12_emptyGroup 34 = .ok (.bipush 64, 2) := by decide +kernel
theorem dX12_emptyGroup_36 : decode cX12_emptyGroup 36 = .ok (.if_icmp .ge 16, 3) := by decide +kernel
theorem dX12_emptyGroup_39 : decode cX12_emptyGroup 39 = .ok (.aload_n 0, 1) := by decide +kernel
theorem dX12_emptyGroup_40 : decode cX12_emptyGroup 40 = .ok (.getfield 193, 3) := by decide +kernel
theorem dX12_emptyGroup_43 : decode cX12_emptyGroup 43 = .ok (.iload_n 1, 1) := by decide +kernel
theorem dX12_emptyGroup_44 : decode cX12_emptyGroup 44 = .ok (.iconst 0, 1) := by decide +kernel
theorem dX12_emptyGroup_45 : decode cX12_emptyGroup 45 = .ok (.bastore, 1) := by decide +kernel
theorem dX12_emptyGroup_46 : decode cX12_emptyGroup 46 = .ok (.iinc 1 1, 3) := by decide +kernel
theorem dX12_emptyGroup_49 : decode cX12_emptyGroup 49 = .ok (.goto (-16), 3) := by decide +kernel
theorem dX12_emptyGroup_52 : decode cX12_emptyGroup 52 = .ok (.return_, 1) := by decide +kernel
set_option maxRecDepth 100000 in
set_option maxHeartbeats 1000000 in
theorem l_X12_emptyGroup_33 {p : Program} {l : Launch} {e : Env} {s : State} {m : MethodId} {args : Array Value} {below : List Frame} {meth : Method} {c : Code} {D : va_G} {aC : Nat → ClassId} {b0 fu : Nat} {σ0 τ : tM} {v : Unit}  (C : tCx p l s m args meth c yX12_emptyGroup.cls cX12_emptyGroup 2 none D aC b0 σ0) (htab : ∀ x ∈ c.exceptionTable.toList, False) (hin : meth.name = yX12_emptyGroup.name)  : ∀ (n : Nat) (x0 : Nat) (x1 : Int32) (σ : tM), L_X12_emptyGroup_33 b0 fu  n x0 x1 σ = some (v, τ) → tX p l e s m args below meth c 2 0 0 D aC b0 σ0 (.inl none) τ 33 [(0, .ref (x0)), (1, .int (x1))] [] σ := by
  intro n
  induction n with
  | zero => intro x0 x1 σ hm; unfold L_X12_emptyGroup_33 at hm; cases hm
  | succ n ih =>
    intro x0 x1 σ hm
    unfold L_X12_emptyGroup_33 at hm
    obtain ⟨rc33, hrc⟩ : ∃ z, z = L_X12_emptyGroup_33 b0 fu  n := ⟨_, rfl⟩
    replace hm := ltb_e hm hrc
    rw [← hrc] at ih
    have hrc33 := ih
    clear ih hrc
    refine zx_iload_n C dX12_emptyGroup_33 1 rfl ?_
    refine zx_bipush (v := 64) C dX12_emptyGroup_34 (by decide) ?_
    refine zx_icmp_ge C 52 dX12_emptyGroup_36 (by decide) (fun c9 => ?_) (fun c9 => ?_)
    · replace hm := ip_e hm c9
      obtain ⟨rfl, rfl⟩ := ret_e hm
      exact zx_vret C rfl rfl rfl dX12_emptyGroup_52
    · replace hm := in_e hm c9
      refine zx_aload_n C dX12_emptyGroup_39 0 rfl ?_
      obtain ⟨k10, i11, hm⟩ := ckO_e hm
      obtain ⟨a12, h13, hm⟩ := osm_e hm
      refine zx_get (j := 25) C tC_11 k10 i11 ⟨by decide, Or.inl W_7_4⟩ dX12_emptyGroup_40 (.ref a12) (rf_s h13) ?_
      refine zx_iload_n C dX12_emptyGroup_43 1 rfl ?_
      refine zx_iconst (v := 0) C dX12_emptyGroup_44 (by decide) ?_
      obtain ⟨n16, k14, i15, hm⟩ := ckR_e hm
      obtain ⟨h17, hm⟩ := ckI_e hm
      refine zx_zast C k14 i15 h17 dX12_emptyGroup_45 ?_
      obtain ⟨y18, hy18⟩ : ∃ z : Int32, z = (x1) + Int32.ofInt 1 := ⟨_, rfl⟩
      replace hm := ltb_e hm hy18
      refine zx_iinc C [(1, .int (y18)), (0, .ref (x0))] dX12_emptyGroup_46 1 rfl hy18.symm (by decide) rfl ?_
      refine zx_goto C 33 dX12_emptyGroup_49 (by decide) ?_
      exact zx_lv [1, 0] [(0, .ref (x0)), (1, .int (y18))] rfl (hrc33 _ _ _ hm)
set_option maxRecDepth 100000 in
set_option maxHeartbeats 1000000 in
theorem l_X12_emptyGroup_2 {p : Program} {l : Launch} {e : Env} {s : State} {m : MethodId} {args : Array Value} {below : List Frame} {meth : Method} {c : Code} {D : va_G} {aC : Nat → ClassId} {b0 fu : Nat} {σ0 τ : tM} {v : Unit}  (C : tCx p l s m args meth c yX12_emptyGroup.cls cX12_emptyGroup 2 none D aC b0 σ0) (htab : ∀ x ∈ c.exceptionTable.toList, False) (hin : meth.name = yX12_emptyGroup.name)  : ∀ (n : Nat) (x0 : Nat) (x1 : Int32) (σ : tM), L_X12_emptyGroup_2 b0 fu  n x0 x1 σ = some (v, τ) → tX p l e s m args below meth c 2 0 0 D aC b0 σ0 (.inl none) τ 2 [(0, .ref (x0)), (1, .int (x1))] [] σ := by
  intro n
  induction n with
  | zero => intro x0 x1 σ hm; unfold L_X12_emptyGroup_2 at hm; cases hm
  | succ n ih =>
    intro x0 x1 σ hm
    unfold L_X12_emptyGroup_2 at hm
    obtain ⟨rc2, hrc⟩ : ∃ z, z = L_X12_emptyGroup_2 b0 fu  n := ⟨_, rfl⟩
    replace hm := ltb_e hm hrc
    rw [← hrc] at ih
    have hrc2 := ih
    clear ih hrc
    refine zx_iload_n C dX12_emptyGroup_2 1 rfl ?_
    refine zx_aload_n C dX12_emptyGroup_3 0 rfl ?_
    obtain ⟨k1, i2, hm⟩ := ckO_e hm
    obtain ⟨a3, h4, hm⟩ := osm_e hm
    refine zx_get (j := 26) C tC_11 k1 i2 ⟨by decide, Or.inl W_7_5⟩ dX12_emptyGroup_4 (.ref a3) (rf_s h4) ?_
    obtain ⟨n7, k5, i6, hm⟩ := ckR_e hm
    refine zx_alen C k5 (by decide) i6 dX12_emptyGroup_7 ?_
    refine zx_icmp_ge C 31 dX12_emptyGroup_8 (by decide) (fun c8 => ?_) (fun c8 => ?_)
    · replace hm := ip_e hm c8
      refine zx_iconst (v := 0) C dX12_emptyGroup_31 (by decide) ?_
      refine zx_istore_n C [(1, .int (0)), (0, .ref (x0))] dX12_emptyGroup_32 rfl (by decide) rfl ?_
      exact zx_lv [1, 0] [(0, .ref (x0)), (1, .int (0))] rfl (l_X12_emptyGroup_33 C htab hin  _ _ _ _ hm)
    · replace hm := in_e hm c8
      refine zx_aload_n C dX12_emptyGroup_11 0 rfl ?_
      obtain ⟨a19, h20, hm⟩ := osm_e hm
      refine zx_get (j := 26) C tC_11 k1 i2 ⟨by decide, Or.inl W_7_5⟩ dX12_emptyGroup_12 (.ref a19) (rf_s h20) ?_
      refine zx_iload_n C dX12_emptyGroup_15 1 rfl ?_
      refine zx_iconst (v := 0) C dX12_emptyGroup_16 (by decide) ?_
      obtain ⟨n23, k21, i22, hm⟩ := ckR_e hm
      obtain ⟨h24, hm⟩ := ckI_e hm
      refine zx_zast C k21 i22 h24 dX12_emptyGroup_17 ?_
      refine zx_aload_n C dX12_emptyGroup_18 0 rfl ?_
      obtain ⟨a25, h26, hm⟩ := osm_e hm
      refine zx_get (j := 27) C tC_11 k1 i2 ⟨by decide, Or.inl W_7_6⟩ dX12_emptyGroup_19 (.ref a25) (rf_s h26) ?_
      refine zx_iload_n C dX12_emptyGroup_22 1 rfl ?_
      refine zx_iconst (v := 0) C dX12_emptyGroup_23 (by decide) ?_
      obtain ⟨n29, k27, i28, hm⟩ := ckR_e hm
      obtain ⟨h30, hm⟩ := ckI_e hm
      refine zx_zast C k27 i28 h30 dX12_emptyGroup_24 ?_
      obtain ⟨y31, hy31⟩ : ∃ z : Int32, z = (x1) + Int32.ofInt 1 := ⟨_, rfl⟩
      replace hm := ltb_e hm hy31
      refine zx_iinc C [(1, .int (y31)), (0, .ref (x0))] dX12_emptyGroup_25 1 rfl hy31.symm (by decide) rfl ?_
      refine zx_goto C 2 dX12_emptyGroup_28 (by decide) ?_
      exact zx_lv [1, 0] [(0, .ref (x0)), (1, .int (y31))] rfl (hrc2 _ _ _ hm)
set_option maxRecDepth 100000 in
set_option maxHeartbeats 1000000 in
theorem c_X12_emptyGroup {l : Launch} {D : va_G} {aC : Nat → ClassId} {b0 fu : Nat} {a0 : Nat} {σ τ : tM} {v : Unit} (hm : m_X12_emptyGroup b0 fu a0 σ = some (v, τ)) : tMt l D aC b0 yX12_emptyGroup (Cond.code yX12_emptyGroup cX12_emptyGroup 2 none) 0 0 [.ref (a0)] σ (.inl none) τ := by
  unfold m_X12_emptyGroup at hm
  obtain ⟨hg, hm⟩ := grw_e hm
  refine tMt_of (n := 0) rfl (Nat.le_of_ble_eq_true rfl) hg ?_
  intro p e s m below meth c C htab hin
  refine zx_lv [0] [(0, .ref (a0))] rfl ?_
  refine zx_iconst (v := 0) C dX12_emptyGroup_0 (by decide) ?_
  refine zx_istore_n C [(1, .int (0)), (0, .ref (a0))] dX12_emptyGroup_1 rfl (by decide) rfl ?_
  exact zx_lv [1, 0] [(0, .ref (a0)), (1, .int (0))] rfl (l_X12_emptyGroup_2 C htab hin  _ _ _ _ hm)
