abbrev cX10_writeDirty : ByteArray := prog_1_method_37_code
def yX10_writeDirty : MethodName := ⟨"SyncTree", "writeDirty", "(II)I"⟩
theorem Y_X10_writeDirty : tY yX10_writeDirty cX10_writeDirty 5 (some .int) 2 := ⟨W_6_39, W_1_1, ⟨by decide +kernel, by decide +kernel⟩, by decide +kernel⟩
theorem dX10_writeDirty_0 : decode cX10_writeDirty 0 = .ok (.iconst 0, 1) := by decide +kernel
theorem dX10_writeDirty_1 : decode cX10_writeDirty 1 = .ok (.istore_n 3, 1) := by decide +kernel
theorem dX10_writeDirty_2 : decode cX10_writeDirty 2 = .ok (.bipush 34, 2) := by decide +kernel
theorem dX10_writeDirty_4 : decode cX10_writeDirty 4 = .ok (.istore 4, 2) := by decide +kernel
theorem dX10_writeDirty_6 : decode cX10_writeDirty 6 = .ok (.iload 4, 2) := by decide +kernel
theorem dX10_writeDirty_8 : decode cX10_writeDirty 8 = .ok (.aload_n 0, 1) := by decide +kernel
theorem dX10_writeDirty_9 : decode cX10_writeDirty 9 = .ok (.getfield 19, 3) := by decide +kernel
theorem dX10_writeDirty_12 : decode cX10_writeDirty 12 = .ok (.getfield 311, 3) := by decide +kernel
theorem dX10_writeDirty_15 : decode cX10_writeDirty 15 = .ok (.if_icmp .ge 110, 3) := by decide +kernel
theorem dX10_writeDirty_18 : decode cX10_writeDirty 18 = .ok (.iload_n 3, 1) := by decide +kernel
theorem dX10_writeDirty_19 : decode cX10_writeDirty 19 = .ok (.iload_n 2, 1) := by decide +kernel
theorem dX10_writeDirty_20 : decode cX10_writeDirty 20 = .ok (.if_icmp .ge 105, 3) := by decide +kernel
theorem dX10_writeDirty_23 : decode cX10_writeDirty 23 = .ok (.aload_n 0, 1) := by decide +kernel
theorem dX10_writeDirty_24 : decode cX10_writeDirty 24 = .ok (.getfield 19, 3) := by decide +kernel
theorem dX10_writeDirty_27 : decode cX10_writeDirty 27 = .ok (.getfield 314, 3) := by decide +kernel
theorem dX10_writeDirty_30 : decode cX10_writeDirty 30 = .ok (.ifCond .le 95, 3) := by decide +kernel
theorem dX10_writeDirty_33 : decode cX10_writeDirty 33 = .ok (.aload_n 0, 1) := by decide +kernel
theorem dX10_writeDirty_34 : decode cX10_writeDirty 34 = .ok (.getfield 19, 3) := by decide +kernel
theorem dX10_writeDirty_37 : decode cX10_writeDirty 37 = .ok (.iload 4, 2) := by decide +kernel
theorem dX10_writeDirty_39 : decode cX10_writeDirty 39 = .ok (.invokevirtual 317, 3) := by decide +kernel
theorem dX10_writeDirty_42 : decode cX10_writeDirty 42 = .ok (.ifCond .eq 77, 3) := by decide +kernel
theorem dX10_writeDirty_45 : decode cX10_writeDirty 45 = .ok (.iload_n 1, 1) := by decide +kernel
theorem dX10_writeDirty_46 : decode cX10_writeDirty 46 = .ok (.iconst (-1), 1) := by decide +kernel
theorem dX10_writeDirty_47 : decode cX10_writeDirty 47 = .ok (.if_icmp .eq 16, 3) := by decide +kernel
theorem dX10_writeDirty_50 : decode cX10_writeDirty 50 = .ok (.aload_n 0, 1) := by decide +kernel
theorem dX10_writeDirty_51 : decode cX10_writeDirty 51 = .ok (.getfield 19, 3) := by decide +kernel
theorem dX10_writeDirty_54 : decode cX10_writeDirty 54 = .ok (.iload 4, 2) := by decide +kernel
theorem dX10_writeDirty_56 : decode cX10_writeDirty 56 = .ok (.invokevirtual 320, 3) := by decide +kernel
theorem dX10_writeDirty_59 : decode cX10_writeDirty 59 = .ok (.iload_n 1, 1) := by decide +kernel
theorem dX10_writeDirty_60 : decode cX10_writeDirty 60 = .ok (.if_icmp .ne 59, 3) := by decide +kernel
theorem dX10_writeDirty_63 : decode cX10_writeDirty 63 = .ok (.aload_n 0, 1) := by decide +kernel
theorem dX10_writeDirty_64 : decode cX10_writeDirty 64 = .ok (.getfield 12, 3) := by decide +kernel
theorem dX10_writeDirty_67 : decode cX10_writeDirty 67 = .ok (.aload_n 0, 1) := by decide +kernel
theorem dX10_writeDirty_68 : decode cX10_writeDirty 68 = .ok (.getfield 19, 3) := by decide +kernel
theorem dX10_writeDirty_71 : decode cX10_writeDirty 71 = .ok (.iload 4, 2) := by decide +kernel
theorem dX10_writeDirty_73 : decode cX10_writeDirty 73 = .ok (.invokevirtual 295, 3) := by decide +kernel
theorem dX10_writeDirty_76 : decode cX10_writeDirty 76 = .ok (.aload_n 0, 1) := by decide +kernel
theorem dX10_writeDirty_77 : decode cX10_writeDirty 77 = .ok (.getfield 19, 3) := by decide +kernel
theorem dX10_writeDirty_80 : decode cX10_writeDirty 80 = .ok (.iload 4, 2) := by decide +kernel
theorem dX10_writeDirty_82 : decode cX10_writeDirty 82 = .ok (.invokevirtual 323, 3) := by decide +kernel
theorem dX10_writeDirty_85 : decode cX10_writeDirty 85 = .ok (.invokevirtual 326, 3) := by decide +kernel
theorem dX10_writeDirty_88 : decode cX10_writeDirty 88 = .ok (.aload_n 0, 1) := by decide +kernel
theorem dX10_writeDirty_89 : decode cX10_writeDirty 89 = .ok (.getfield 12, 3) := by decide +kernel
theorem dX10_writeDirty_92 : decode cX10_writeDirty 92 = .ok (.aload_n 0, 1) := by decide +kernel
theorem dX10_writeDirty_93 : decode cX10_writeDirty 93 = .ok (.getfield 19, 3) := by decide +kernel
theorem dX10_writeDirty_96 : decode cX10_writeDirty 96 = .ok (.getfield 329, 3) := by decide +kernel
theorem dX10_writeDirty_99 : decode cX10_writeDirty 99 = .ok (.iload 4, 2) := by decide +kernel
theorem dX10_writeDirty_101 : decode cX10_writeDirty 101 = .ok (.bipush 32, 2) := by decide +kernel
theorem dX10_writeDirty_103 : decode cX10_writeDirty 103 = .ok (.imul, 1) := by decide +kernel
theorem dX10_writeDirty_104 : decode cX10_writeDirty 104 = .ok (.invokevirtual 333, 3) := by decide +kernel
theorem dX10_writeDirty_107 : decode cX10_writeDirty 107 = .ok (.aload_n 0, 1) := by decide +kernel
theorem dX10_writeDirty_108 : decode cX10_writeDirty 108 = .ok (.getfield 19, 3) := by decide +kernel
theorem dX10_writeDirty_111 : decode cX10_writeDirty 111 = .ok (.iload 4, 2) := by decide +kernel
theorem dX10_writeDirty_113 : decode cX10_writeDirty 113 = .ok (.invokevirtual 337, 3) := by decide +kernel
theorem dX10_writeDirty_116 : decode cX10_writeDirty 116 = .ok (.iinc 3 1, 3) := by decide +kernel
theorem dX10_writeDirty_119 : decode cX10_writeDirty 119 = .ok (.iinc 4 1, 3) := by decide +kernel
theorem dX10_writeDirty_122 : decode cX10_writeDirty 122 = .ok (.goto (-116), 3) := by decide +kernel
theorem dX10_writeDirty_125 : decode cX10_writeDirty 125 = .ok (.iload_n 3, 1) := by decide +kernel
theorem dX10_writeDirty_126 : decode cX10_writeDirty 126 = .ok (.ireturn, 1) := by decide +kernel
def J_X10_writeDirty_125 (b0 fu : Nat)  (x3 : Int32) (σ : tM) : Option (((Int32) ⊕ Unit) × tM) := some (.inl (x3), σ)
def J_X10_writeDirty_119 (b0 fu : Nat) (rc6 : Nat → Int32 → Int32 → Int32 → Int32 → tM → Option (((Int32) ⊕ Unit) × tM)) (x0 : Nat) (x1 : Int32) (x2 : Int32) (x3 : Int32) (x4 : Int32) (σ : tM) : Option (((Int32) ⊕ Unit) × tM) := ltb ((x4) + Int32.ofInt 1) (fun y22 => rc6 (x0) (x1) (x2) (x3) (y22) (σ))
def J_X10_writeDirty_63 (b0 fu : Nat) (rc6 : Nat → Int32 → Int32 → Int32 → Int32 → tM → Option (((Int32) ⊕ Unit) × tM)) (x0 : Nat) (x1 : Int32) (x2 : Int32) (x3 : Int32) (x4 : Int32) (σ : tM) : Option (((Int32) ⊕ Unit) × tM) := ckO b0 (σ) (x0) 10 (osm (tA (σ) (x0) 0) (fun a26 => osm (tA (σ) (x0) 1) (fun a28 => ckO b0 (σ) (a28) 5 (cll (m_X5_numberOf b0 fu (a28) (x4) (σ)) (fun v32 ρ33 => ckO b0 (ρ33) (x0) 10 (osm (tA (ρ33) (x0) 1) (fun a37 => ckO b0 (ρ33) (a37) 5 (cll (m_X5_birthOf b0 fu (a37) (x4) (ρ33)) (fun v41 ρ42 => ckO b0 (ρ42) (a26) 0 (clx (m_X0_put b0 fu (a26) (v32) (v41) (ρ42)) (fun v46 ρ47 => ckO b0 (ρ47) (x0) 10 (osm (tA (ρ47) (x0) 0) (fun a51 => osm (tA (ρ47) (x0) 1) (fun a53 => ckO b0 (ρ47) (a53) 5 (osm (tA (ρ47) (a53) 0) (fun a57 => ckO b0 (ρ47) (a51) 0 (cll (m_X0_giveBytes b0 fu (a51) (a57) ((x4) * (32)) (ρ47)) (fun v61 ρ62 => ckO b0 (ρ62) (x0) 10 (osm (tA (ρ62) (x0) 1) (fun a66 => ckO b0 (ρ62) (a66) 5 (cll (m_X5_clean b0 fu (a66) (x4) (ρ62)) (fun v70 ρ71 => ltb ((x3) + Int32.ofInt 1) (fun y73 => J_X10_writeDirty_119 b0 fu rc6  (x0) (x1) (x2) (y73) (x4) (ρ71))))))))))))))))))))))))
def L_X10_writeDirty_6 (b0 fu : Nat)  : Nat → Nat → Int32 → Int32 → Int32 → Int32 → tM → Option (((Int32) ⊕ Unit) × tM)
  | 0, _, _, _, _, _, _ => none
  | n + 1, x0, x1, x2, x3, x4, σ => ltb (L_X10_writeDirty_6 b0 fu  n) (fun rc6 => ckO b0 (σ) (x0) 10 (osm (tA (σ) (x0) 1) (fun a3 => ckO b0 (σ) (a3) 5 (if (tI (σ) (a3) 7) ≤ (x4) then J_X10_writeDirty_125 b0 fu   (x3) (σ) else if (x2) ≤ (x3) then J_X10_writeDirty_125 b0 fu   (x3) (σ) else osm (tA (σ) (x0) 1) (fun a9 => ckO b0 (σ) (a9) 5 (if (tI (σ) (a9) 13) ≤ (0) then J_X10_writeDirty_125 b0 fu   (x3) (σ) else osm (tA (σ) (x0) 1) (fun a14 => ckO b0 (σ) (a14) 5 (cll (m_X5_isDirty b0 fu (a14) (x4) (σ)) (fun v18 ρ19 => if (v18) = (0) then J_X10_writeDirty_119 b0 fu rc6  (x0) (x1) (x2) (x3) (x4) (ρ19) else if (x1) = ((-1)) then J_X10_writeDirty_63 b0 fu rc6  (x0) (x1) (x2) (x3) (x4) (ρ19) else ckO b0 (ρ19) (x0) 10 (osm (tA (ρ19) (x0) 1) (fun a77 => ckO b0 (ρ19) (a77) 5 (cll (m_X5_ownerOf b0 fu (a77) (x4) (ρ19)) (fun v81 ρ82 => if (v81) = (x1) then J_X10_writeDirty_63 b0 fu rc6  (x0) (x1) (x2) (x3) (x4) (ρ82) else J_X10_writeDirty_119 b0 fu rc6  (x0) (x1) (x2) (x3) (x4) (ρ82))))))))))))))
def m_X10_writeDirty (b0 fu : Nat) (a0 : Nat) (p0 : Int32) (p1 : Int32) (σ : tM) : Option (((Int32) ⊕ Unit) × tM) := grw σ (L_X10_writeDirty_6 b0 fu  (fu) (a0) (p0) (p1) (0) (34) (σ))
set_option maxRecDepth 100000 in
set_option maxHeartbeats 1000000 in
theorem j_X10_writeDirty_125 {p : Program} {l : Launch} {e : Env} {s : State} {m : MethodId} {args : Array Value} {below : List Frame} {meth : Method} {c : Code} {D : va_G} {aC : Nat → ClassId} {b0 fu : Nat} {σ0 τ : tM} {v : (Int32) ⊕ Unit}  (C : tCx p l s m args meth c yX10_writeDirty.cls cX10_writeDirty 5 (some .int) D aC b0 σ0) (htab : ∀ x ∈ c.exceptionTable.toList, False) (hin : meth.name = yX10_writeDirty.name)  {x3 : Int32} {σ : tM} (hm : J_X10_writeDirty_125 b0 fu  x3 σ = some (v, τ)) : tX p l e s m args below meth c 5 8 133 D aC b0 σ0 (rxI "java/lang/IllegalStateException" v) τ 125 [(3, .int (x3))] [] σ := by
  unfold J_X10_writeDirty_125 at hm
  refine zx_iload_n C dX10_writeDirty_125 0 rfl ?_
  obtain ⟨rfl, rfl⟩ := ret_e hm
  exact zx_iret C rfl rfl rfl dX10_writeDirty_126
set_option maxRecDepth 100000 in
set_option maxHeartbeats 1000000 in
theorem j_X10_writeDirty_119 {p : Program} {l : Launch} {e : Env} {s : State} {m : MethodId} {args : Array Value} {below : List Frame} {meth : Method} {c : Code} {D : va_G} {aC : Nat → ClassId} {b0 fu : Nat} {σ0 τ : tM} {v : (Int32) ⊕ Unit} {rc6 : Nat → Int32 → Int32 → Int32 → Int32 → tM → Option (((Int32) ⊕ Unit) × tM)} (C : tCx p l s m args meth c yX10_writeDirty.cls cX10_writeDirty 5 (some .int) D aC b0 σ0) (htab : ∀ x ∈ c.exceptionTable.toList, False) (hin : meth.name = yX10_writeDirty.name) (hrc6 : ∀ (x0 : Nat) (x1 : Int32) (x2 : Int32) (x3 : Int32) (x4 : Int32) (ρ : tM), rc6 x0 x1 x2 x3 x4 ρ = some (v, τ) → tX p l e s m args below meth c 5 8 133 D aC b0 σ0 (rxI "java/lang/IllegalStateException" v) τ 6 [(0, .ref (x0)), (1, .int (x1)), (2, .int (x2)), (3, .int (x3)), (4, .int (x4))] [] ρ) {x0 : Nat} {x1 : Int32} {x2 : Int32} {x3 : Int32} {x4 : Int32} {σ : tM} (hm : J_X10_writeDirty_119 b0 fu rc6 x0 x1 x2 x3 x4 σ = some (v, τ)) : tX p l e s m args below meth c 5 8 133 D aC b0 σ0 (rxI "java/lang/IllegalStateException" v) τ 119 [(0, .ref (x0)), (1, .int (x1)), (2, .int (x2)), (3, .int (x3)), (4, .int (x4))] [] σ := by
  unfold J_X10_writeDirty_119 at hm
  obtain ⟨y22, hy22⟩ : ∃ z : Int32, z = (x4) + Int32.ofInt 1 := ⟨_, rfl⟩
  replace hm := ltb_e hm hy22
  refine zx_iinc C [(4, .int (y22)), (0, .ref (x0)), (1, .int (x1)), (2, .int (x2)), (3, .int (x3))] dX10_writeDirty_119 4 rfl hy22.symm (by decide) rfl ?_
  refine zx_goto C 6 dX10_writeDirty_122 (by decide) ?_
  exact zx_lv [1, 2, 3, 4, 0] [(0, .ref (x0)), (1, .int (x1)), (2, .int (x2)), (3, .int (x3)), (4, .int (y22))] rfl (hrc6 _ _ _ _ _ _ hm)
set_option maxRecDepth 100000 in
set_option maxHeartbeats 1000000 in
theorem j_X10_writeDirty_63 {p : Program} {l : Launch} {e : Env} {s : State} {m : MethodId} {args : Array Value} {below : List Frame} {meth : Method} {c : Code} {D : va_G} {aC : Nat → ClassId} {b0 fu : Nat} {σ0 τ : tM} {v : (Int32) ⊕ Unit} {rc6 : Nat → Int32 → Int32 → Int32 → Int32 → tM → Option (((Int32) ⊕ Unit) × tM)} (C : tCx p l s m args meth c yX10_writeDirty.cls cX10_writeDirty 5 (some .int) D aC b0 σ0) (htab : ∀ x ∈ c.exceptionTable.toList, False) (hin : meth.name = yX10_writeDirty.name) (hrc6 : ∀ (x0 : Nat) (x1 : Int32) (x2 : Int32) (x3 : Int32) (x4 : Int32) (ρ : tM), rc6 x0 x1 x2 x3 x4 ρ = some (v, τ) → tX p l e s m args below meth c 5 8 133 D aC b0 σ0 (rxI "java/lang/IllegalStateException" v) τ 6 [(0, .ref (x0)), (1, .int (x1)), (2, .int (x2)), (3, .int (x3)), (4, .int (x4))] [] ρ) {x0 : Nat} {x1 : Int32} {x2 : Int32} {x3 : Int32} {x4 : Int32} {σ : tM} (hm : J_X10_writeDirty_63 b0 fu rc6 x0 x1 x2 x3 x4 σ = some (v, τ)) : tX p l e s m args below meth c 5 8 133 D aC b0 σ0 (rxI "java/lang/IllegalStateException" v) τ 63 [(0, .ref (x0)), (1, .int (x1)), (2, .int (x2)), (3, .int (x3)), (4, .int (x4))] [] σ := by
  unfold J_X10_writeDirty_63 at hm
  refine zx_aload_n C dX10_writeDirty_63 0 rfl ?_
  obtain ⟨k24, i25, hm⟩ := ckO_e hm
  obtain ⟨a26, h27, hm⟩ := osm_e hm
  refine zx_get (j := 0) C tC_10 k24 i25 ⟨by decide, Or.inl W_2_213⟩ dX10_writeDirty_64 (.ref a26) (rf_s h27) ?_
  refine zx_aload_n C dX10_writeDirty_67 0 rfl ?_
  obtain ⟨a28, h29, hm⟩ := osm_e hm
  refine zx_get (j := 1) C tC_10 k24 i25 ⟨by decide, Or.inl W_2_214⟩ dX10_writeDirty_68 (.ref a28) (rf_s h29) ?_
  refine zx_iload C dX10_writeDirty_71 4 rfl ?_
  obtain ⟨k30, i31, hm⟩ := ckO_e hm
  obtain ⟨v32, ρ33, h34, hm⟩ := cll_e hm
  refine zx_callV (σ := σ) C [.int (x4)] tC_5 k30 i31 Y_X5_numberOf W_6_27 W_4_6 W_4_7 (c_X5_numberOf h34) (by decide) (by decide) rfl (Nat.le_of_ble_eq_true rfl) dX10_writeDirty_73 rfl ?_
  refine zx_aload_n C dX10_writeDirty_76 0 rfl ?_
  obtain ⟨k35, i36, hm⟩ := ckO_e hm
  obtain ⟨a37, h38, hm⟩ := osm_e hm
  refine zx_get (j := 1) C tC_10 k35 i36 ⟨by decide, Or.inl W_2_214⟩ dX10_writeDirty_77 (.ref a37) (rf_s h38) ?_
  refine zx_iload C dX10_writeDirty_80 4 rfl ?_
  obtain ⟨k39, i40, hm⟩ := ckO_e hm
  obtain ⟨v41, ρ42, h43, hm⟩ := cll_e hm
  refine zx_callV (σ := ρ33) C [.int (x4)] tC_5 k39 i40 Y_X5_birthOf W_6_48 W_6_49 W_6_50 (c_X5_birthOf h43) (by decide) (by decide) rfl (Nat.le_of_ble_eq_true rfl) dX10_writeDirty_82 rfl ?_
  obtain ⟨k44, i45, hm⟩ := ckO_e hm
  rcases clx_e hm with ⟨v46, ρ47, h48, hm⟩ | ⟨ρ47, h48, hm⟩
  · refine zx_callV (σ := ρ42) C [.int (v32), .int (v41)] tC_0 k44 i45 Y_X0_put W_6_52 W_3_229 W_3_230 (c_X0_put h48) (by decide) (by decide) rfl (Nat.le_of_ble_eq_true rfl) dX10_writeDirty_85 rfl ?_
    refine zx_aload_n C dX10_writeDirty_88 0 rfl ?_
    obtain ⟨k49, i50, hm⟩ := ckO_e hm
    obtain ⟨a51, h52, hm⟩ := osm_e hm
    refine zx_get (j := 0) C tC_10 k49 i50 ⟨by decide, Or.inl W_2_213⟩ dX10_writeDirty_89 (.ref a51) (rf_s h52) ?_
    refine zx_aload_n C dX10_writeDirty_92 0 rfl ?_
    obtain ⟨a53, h54, hm⟩ := osm_e hm
    refine zx_get (j := 1) C tC_10 k49 i50 ⟨by decide, Or.inl W_2_214⟩ dX10_writeDirty_93 (.ref a53) (rf_s h54) ?_
    obtain ⟨k55, i56, hm⟩ := ckO_e hm
    obtain ⟨a57, h58, hm⟩ := osm_e hm
    refine zx_get (j := 0) C tC_5 k55 i56 ⟨by decide, Or.inr ⟨_, W_1_96⟩⟩ dX10_writeDirty_96 (.ref a57) (rf_s h58) ?_
    refine zx_iload C dX10_writeDirty_99 4 rfl ?_
    refine zx_bipush (v := 32) C dX10_writeDirty_101 (by decide) ?_
    refine zx_imul C dX10_writeDirty_103 ?_
    obtain ⟨k59, i60, hm⟩ := ckO_e hm
    obtain ⟨v61, ρ62, h63, hm⟩ := cll_e hm
    refine zx_callV (σ := ρ47) C [.ref (a57), .int ((x4) * (32))] tC_0 k59 i60 Y_X0_giveBytes W_6_53 W_6_54 W_6_55 (c_X0_giveBytes h63) (by decide) (by decide) rfl (Nat.le_of_ble_eq_true rfl) dX10_writeDirty_104 rfl ?_
    refine zx_aload_n C dX10_writeDirty_107 0 rfl ?_
    obtain ⟨k64, i65, hm⟩ := ckO_e hm
    obtain ⟨a66, h67, hm⟩ := osm_e hm
    refine zx_get (j := 1) C tC_10 k64 i65 ⟨by decide, Or.inl W_2_214⟩ dX10_writeDirty_108 (.ref a66) (rf_s h67) ?_
    refine zx_iload C dX10_writeDirty_111 4 rfl ?_
    obtain ⟨k68, i69, hm⟩ := ckO_e hm
    obtain ⟨v70, ρ71, h72, hm⟩ := cll_e hm
    refine zx_callV (σ := ρ62) C [.int (x4)] tC_5 k68 i69 Y_X5_clean W_6_59 W_2_120 W_2_121 (c_X5_clean h72) (by decide) (by decide) rfl (Nat.le_of_ble_eq_true rfl) dX10_writeDirty_113 rfl ?_
    obtain ⟨y73, hy73⟩ : ∃ z : Int32, z = (x3) + Int32.ofInt 1 := ⟨_, rfl⟩
    replace hm := ltb_e hm hy73
    refine zx_iinc C [(3, .int (y73)), (0, .ref (x0)), (1, .int (x1)), (2, .int (x2)), (4, .int (x4))] dX10_writeDirty_116 3 rfl hy73.symm (by decide) rfl ?_
    exact zx_lv [1, 2, 3, 0, 4] [(0, .ref (x0)), (1, .int (x1)), (2, .int (x2)), (3, .int (y73)), (4, .int (x4))] rfl (j_X10_writeDirty_119 C htab hin hrc6   hm)
  · cases hm
    exact zx_outV (σ := ρ42) C htab [.int (v32), .int (v41)] tC_0 k44 i45 Y_X0_put W_6_52 W_3_229 W_3_230 (c_X0_put h48) rfl (by decide) (by decide) rfl (Nat.le_of_ble_eq_true rfl) dX10_writeDirty_85 rfl
set_option maxRecDepth 100000 in
set_option maxHeartbeats 1000000 in
theorem l_X10_writeDirty_6 {p : Program} {l : Launch} {e : Env} {s : State} {m : MethodId} {args : Array Value} {below : List Frame} {meth : Method} {c : Code} {D : va_G} {aC : Nat → ClassId} {b0 fu : Nat} {σ0 τ : tM} {v : (Int32) ⊕ Unit}  (C : tCx p l s m args meth c yX10_writeDirty.cls cX10_writeDirty 5 (some .int) D aC b0 σ0) (htab : ∀ x ∈ c.exceptionTable.toList, False) (hin : meth.name = yX10_writeDirty.name)  : ∀ (n : Nat) (x0 : Nat) (x1 : Int32) (x2 : Int32) (x3 : Int32) (x4 : Int32) (σ : tM), L_X10_writeDirty_6 b0 fu  n x0 x1 x2 x3 x4 σ = some (v, τ) → tX p l e s m args below meth c 5 8 133 D aC b0 σ0 (rxI "java/lang/IllegalStateException" v) τ 6 [(0, .ref (x0)), (1, .int (x1)), (2, .int (x2)), (3, .int (x3)), (4, .int (x4))] [] σ := by
  intro n
  induction n with
  | zero => intro x0 x1 x2 x3 x4 σ hm; unfold L_X10_writeDirty_6 at hm; cases hm
  | succ n ih =>
    intro x0 x1 x2 x3 x4 σ hm
    unfold L_X10_writeDirty_6 at hm
    obtain ⟨rc6, hrc⟩ : ∃ z, z = L_X10_writeDirty_6 b0 fu  n := ⟨_, rfl⟩
    replace hm := ltb_e hm hrc
    rw [← hrc] at ih
    have hrc6 := ih
    clear ih hrc
    refine zx_iload C dX10_writeDirty_6 4 rfl ?_
    refine zx_aload_n C dX10_writeDirty_8 0 rfl ?_
    obtain ⟨k1, i2, hm⟩ := ckO_e hm
    obtain ⟨a3, h4, hm⟩ := osm_e hm
    refine zx_get (j := 1) C tC_10 k1 i2 ⟨by decide, Or.inl W_2_214⟩ dX10_writeDirty_9 (.ref a3) (rf_s h4) ?_
    obtain ⟨k5, i6, hm⟩ := ckO_e hm
    refine zx_get (j := 7) C tC_5 k5 i6 ⟨by decide, Or.inr ⟨_, W_1_105⟩⟩ dX10_writeDirty_12 (.int (tI (σ) (a3) 7)) rfl ?_
    refine zx_icmp_ge C 125 dX10_writeDirty_15 (by decide) (fun c7 => ?_) (fun c7 => ?_)
    · replace hm := ip_e hm c7
      exact zx_lv [3] [(3, .int (x3))] rfl (j_X10_writeDirty_125 C htab hin    hm)
    · replace hm := in_e hm c7
      refine zx_iload_n C dX10_writeDirty_18 3 rfl ?_
      refine zx_iload_n C dX10_writeDirty_19 2 rfl ?_
      refine zx_icmp_ge C 125 dX10_writeDirty_20 (by decide) (fun c8 => ?_) (fun c8 => ?_)
      · replace hm := ip_e hm c8
        exact zx_lv [3] [(3, .int (x3))] rfl (j_X10_writeDirty_125 C htab hin    hm)
      · replace hm := in_e hm c8
        refine zx_aload_n C dX10_writeDirty_23 0 rfl ?_
        obtain ⟨a9, h10, hm⟩ := osm_e hm
        refine zx_get (j := 1) C tC_10 k1 i2 ⟨by decide, Or.inl W_2_214⟩ dX10_writeDirty_24 (.ref a9) (rf_s h10) ?_
        obtain ⟨k11, i12, hm⟩ := ckO_e hm
        refine zx_get (j := 13) C tC_5 k11 i12 ⟨by decide, Or.inr ⟨_, W_1_116⟩⟩ dX10_writeDirty_27 (.int (tI (σ) (a9) 13)) rfl ?_
        refine zx_if_le C 125 dX10_writeDirty_30 (by decide) (fun c13 => ?_) (fun c13 => ?_)
        · replace hm := ip_e hm c13
          exact zx_lv [3] [(3, .int (x3))] rfl (j_X10_writeDirty_125 C htab hin    hm)
        · replace hm := in_e hm c13
          refine zx_aload_n C dX10_writeDirty_33 0 rfl ?_
          obtain ⟨a14, h15, hm⟩ := osm_e hm
          refine zx_get (j := 1) C tC_10 k1 i2 ⟨by decide, Or.inl W_2_214⟩ dX10_writeDirty_34 (.ref a14) (rf_s h15) ?_
          refine zx_iload C dX10_writeDirty_37 4 rfl ?_
          obtain ⟨k16, i17, hm⟩ := ckO_e hm
          obtain ⟨v18, ρ19, h20, hm⟩ := cll_e hm
          refine zx_callV (σ := σ) C [.int (x4)] tC_5 k16 i17 Y_X5_isDirty W_6_40 W_6_41 W_6_42 (c_X5_isDirty h20) (by decide) (by decide) rfl (Nat.le_of_ble_eq_true rfl) dX10_writeDirty_39 rfl ?_
          refine zx_if_eq C 119 dX10_writeDirty_42 (by decide) (fun c21 => ?_) (fun c21 => ?_)
          · replace hm := ip_e hm c21
            exact zx_lv [0, 1, 2, 3, 4] [(0, .ref (x0)), (1, .int (x1)), (2, .int (x2)), (3, .int (x3)), (4, .int (x4))] rfl (j_X10_writeDirty_119 C htab hin hrc6   hm)
          · replace hm := in_e hm c21
            refine zx_iload_n C dX10_writeDirty_45 1 rfl ?_
            refine zx_iconst (v := (-1)) C dX10_writeDirty_46 (by decide) ?_
            refine zx_icmp_eq C 63 dX10_writeDirty_47 (by decide) (fun c23 => ?_) (fun c23 => ?_)
            · replace hm := ip_e hm c23
              exact zx_lv [0, 1, 2, 3, 4] [(0, .ref (x0)), (1, .int (x1)), (2, .int (x2)), (3, .int (x3)), (4, .int (x4))] rfl (j_X10_writeDirty_63 C htab hin hrc6   hm)
            · replace hm := in_e hm c23
              refine zx_aload_n C dX10_writeDirty_50 0 rfl ?_
              obtain ⟨k75, i76, hm⟩ := ckO_e hm
              obtain ⟨a77, h78, hm⟩ := osm_e hm
              refine zx_get (j := 1) C tC_10 k75 i76 ⟨by decide, Or.inl W_2_214⟩ dX10_writeDirty_51 (.ref a77) (rf_s h78) ?_
              refine zx_iload C dX10_writeDirty_54 4 rfl ?_
              obtain ⟨k79, i80, hm⟩ := ckO_e hm
              obtain ⟨v81, ρ82, h83, hm⟩ := cll_e hm
              refine zx_callV (σ := ρ19) C [.int (x4)] tC_5 k79 i80 Y_X5_ownerOf W_6_44 W_6_45 W_6_46 (c_X5_ownerOf h83) (by decide) (by decide) rfl (Nat.le_of_ble_eq_true rfl) dX10_writeDirty_56 rfl ?_
              refine zx_iload_n C dX10_writeDirty_59 1 rfl ?_
              refine zx_icmp_ne C 119 dX10_writeDirty_60 (by decide) (fun c84 => ?_) (fun c84 => ?_)
              · replace hm := in_e hm c84
                exact zx_lv [0, 1, 2, 3, 4] [(0, .ref (x0)), (1, .int (x1)), (2, .int (x2)), (3, .int (x3)), (4, .int (x4))] rfl (j_X10_writeDirty_119 C htab hin hrc6   hm)
              · replace hm := ip_e hm c84
                exact zx_lv [0, 1, 2, 3, 4] [(0, .ref (x0)), (1, .int (x1)), (2, .int (x2)), (3, .int (x3)), (4, .int (x4))] rfl (j_X10_writeDirty_63 C htab hin hrc6   hm)
set_option maxRecDepth 100000 in
set_option maxHeartbeats 1000000 in
theorem c_X10_writeDirty {l : Launch} {D : va_G} {aC : Nat → ClassId} {b0 fu : Nat} {a0 : Nat} {p0 : Int32} {p1 : Int32} {σ τ : tM} {v : (Int32) ⊕ Unit} (hm : m_X10_writeDirty b0 fu a0 p0 p1 σ = some (v, τ)) : tMt l D aC b0 yX10_writeDirty (Cond.code yX10_writeDirty cX10_writeDirty 5 (some .int)) 8 133 [.ref (a0), .int (p0), .int (p1)] σ (rxI "java/lang/IllegalStateException" v) τ := by
  unfold m_X10_writeDirty at hm
  obtain ⟨hg, hm⟩ := grw_e hm
  refine tMt_of (n := 0) rfl (Nat.le_of_ble_eq_true rfl) hg ?_
  intro p e s m below meth c C htab hin
  refine zx_lv [0, 1, 2] [(0, .ref (a0)), (1, .int (p0)), (2, .int (p1))] rfl ?_
  refine zx_iconst (v := 0) C dX10_writeDirty_0 (by decide) ?_
  refine zx_istore_n C [(3, .int (0)), (0, .ref (a0)), (1, .int (p0)), (2, .int (p1))] dX10_writeDirty_1 rfl (by decide) rfl ?_
  refine zx_bipush (v := 34) C dX10_writeDirty_2 (by decide) ?_
  refine zx_istore C [(4, .int (34)), (3, .int (0)), (0, .ref (a0)), (1, .int (p0)), (2, .int (p1))] dX10_writeDirty_4 (by decide) rfl ?_
  exact zx_lv [2, 3, 4, 1, 0] [(0, .ref (a0)), (1, .int (p0)), (2, .int (p1)), (3, .int (0)), (4, .int (34))] rfl (l_X10_writeDirty_6 C htab hin  _ _ _ _ _ _ _ hm)
abbrev cX10_writeBack : ByteArray := prog_1_method_39_code
def yX10_writeBack : MethodName := ⟨"SyncTree", "writeBack", "(I)I"⟩
theorem Y_X10_writeBack : tY yX10_writeBack cX10_writeBack 2 (some .int) 1 := ⟨W_6_93, W_1_1, ⟨by decide +kernel, by decide +kernel⟩, by decide +kernel⟩
theorem dX10_writeBack_0 : decode cX10_writeBack 0 = .ok (.aload_n 0, 1) := by decide +kernel
theorem dX10_writeBack_1 : decode cX10_writeBack 1 = .ok (.getfield 12, 3) := by decide +kernel
theorem dX10_writeBack_4 : decode cX10_writeBack 4 = .ok (.invokevirtual 221, 3) := by decide +kernel
theorem dX10_writeBack_7 : decode cX10_writeBack 7 = .ok (.iload_n 1, 1) := by decide +kernel
theorem dX10_writeBack_8 : decode cX10_writeBack 8 = .ok (.ifCond .ge 8, 3) := by decide +kernel
theorem dX10_writeBack_11 : decode cX10_writeBack 11 = .ok (.bipush (-9), 2) := by decide +kernel
theorem dX10_writeBack_13 : decode cX10_writeBack 13 = .ok (.goto 9, 3) := by decide +kernel
theorem dX10_writeBack_16 : decode cX10_writeBack 16 = .ok (.aload_n 0, 1) := by decide +kernel
theorem dX10_writeBack_17 : decode cX10_writeBack 17 = .ok (.iconst (-1), 1) := by decide +kernel
theorem dX10_writeBack_18 : decode cX10_writeBack 18 = .ok (.iload_n 1, 1) := by decide +kernel
theorem dX10_writeBack_19 : decode cX10_writeBack 19 = .ok (.invokevirtual 299, 3) := by decide +kernel
theorem dX10_writeBack_22 : decode cX10_writeBack 22 = .ok (.ireturn, 1) := by decide +kernel
def J_X10_writeBack_22 (b0 fu : Nat)  (s0 : Int32) (σ : tM) : Option (((Int32) ⊕ Unit) × tM) := some (.inl (s0), σ)
def m_X10_writeBack (b0 fu : Nat) (a0 : Nat) (p0 : Int32) (σ : tM) : Option (((Int32) ⊕ Unit) × tM) := grw σ (ckO b0 (σ) (a0) 10 (osm (tA (σ) (a0) 0) (fun a3 => ckO b0 (σ) (a3) 0 (clx (m_X0_demandPower b0 fu (a3) (σ)) (fun v7 ρ8 => if (0) ≤ (p0) then ckO b0 (ρ8) (a0) 10 (clx (m_X10_writeDirty b0 fu (a0) ((-1)) (p0) (ρ8)) (fun v13 ρ14 => J_X10_writeBack_22 b0 fu   (v13) (ρ14))) else J_X10_writeBack_22 b0 fu   ((-9)) (ρ8))))))
set_option maxRecDepth 100000 in
set_option maxHeartbeats 1000000 in
theorem j_X10_writeBack_22 {p : Program} {l : Launch} {e : Env} {s : State} {m : MethodId} {args : Array Value} {below : List Frame} {meth : Method} {c : Code} {D : va_G} {aC : Nat → ClassId} {b0 fu : Nat} {σ0 τ : tM} {v : (Int32) ⊕ Unit}  (C : tCx p l s m args meth c yX10_writeBack.cls cX10_writeBack 2 (some .int) D aC b0 σ0) (htab : ∀ x ∈ c.exceptionTable.toList, False) (hin : meth.name = yX10_writeBack.name)  {s0 : Int32} {σ : tM} (hm : J_X10_writeBack_22 b0 fu  s0 σ = some (v, τ)) : tX p l e s m args below meth c 2 9 157 D aC b0 σ0 (rxI "java/lang/IllegalStateException" v) τ 22 [] [.int (s0)] σ := by
  unfold J_X10_writeBack_22 at hm
  obtain ⟨rfl, rfl⟩ := ret_e hm
  exact zx_iret C rfl rfl rfl dX10_writeBack_22
set_option maxRecDepth 100000 in
set_option maxHeartbeats 1000000 in
theorem c_X10_writeBack {l : Launch} {D : va_G} {aC : Nat → ClassId} {b0 fu : Nat} {a0 : Nat} {p0 : Int32} {σ τ : tM} {v : (Int32) ⊕ Unit} (hm : m_X10_writeBack b0 fu a0 p0 σ = some (v, τ)) : tMt l D aC b0 yX10_writeBack (Cond.code yX10_writeBack cX10_writeBack 2 (some .int)) 9 157 [.ref (a0), .int (p0)] σ (rxI "java/lang/IllegalStateException" v) τ := by
  unfold m_X10_writeBack at hm
  obtain ⟨hg, hm⟩ := grw_e hm
  refine tMt_of (n := 0) rfl (Nat.le_of_ble_eq_true rfl) hg ?_
  intro p e s m below meth c C htab hin
  refine zx_lv [0, 1] [(0, .ref (a0)), (1, .int (p0))] rfl ?_
  refine zx_aload_n C dX10_writeBack_0 0 rfl ?_
  obtain ⟨k1, i2, hm⟩ := ckO_e hm
  obtain ⟨a3, h4, hm⟩ := osm_e hm
  refine zx_get (j := 0) C tC_10 k1 i2 ⟨by decide, Or.inl W_2_213⟩ dX10_writeBack_1 (.ref a3) (rf_s h4) ?_
  obtain ⟨k5, i6, hm⟩ := ckO_e hm
  rcases clx_e hm with ⟨v7, ρ8, h9, hm⟩ | ⟨ρ8, h9, hm⟩
  · refine zx_callV (σ := σ) C [] tC_0 k5 i6 Y_X0_demandPower W_5_130 W_3_113 W_3_114 (c_X0_demandPower h9) (by decide) (by decide) rfl (Nat.le_of_ble_eq_true rfl) dX10_writeBack_4 rfl ?_
    refine zx_iload_n C dX10_writeBack_7 1 rfl ?_
    refine zx_if_ge C 16 dX10_writeBack_8 (by decide) (fun c10 => ?_) (fun c10 => ?_)
    · replace hm := ip_e hm c10
      refine zx_aload_n C dX10_writeBack_16 0 rfl ?_
      refine zx_iconst (v := (-1)) C dX10_writeBack_17 (by decide) ?_
      refine zx_iload_n C dX10_writeBack_18 1 rfl ?_
      obtain ⟨k11, i12, hm⟩ := ckO_e hm
      rcases clx_e hm with ⟨v13, ρ14, h15, hm⟩ | ⟨ρ14, h15, hm⟩
      · refine zx_callV (σ := ρ8) C [.int ((-1)), .int (p0)] tC_10 k11 i12 Y_X10_writeDirty W_6_36 W_6_38 Wp_45 (c_X10_writeDirty h15) (by decide) (by decide) rfl (Nat.le_of_ble_eq_true rfl) dX10_writeBack_19 rfl ?_
        exact zx_lv [] [] rfl (j_X10_writeBack_22 C htab hin    hm)
      · cases hm
        exact zx_outV (σ := ρ8) C htab [.int ((-1)), .int (p0)] tC_10 k11 i12 Y_X10_writeDirty W_6_36 W_6_38 Wp_45 (c_X10_writeDirty h15) rfl (by decide) (by decide) rfl (Nat.le_of_ble_eq_true rfl) dX10_writeBack_19 rfl
    · replace hm := in_e hm c10
      refine zx_bipush (v := (-9)) C dX10_writeBack_11 (by decide) ?_
      refine zx_goto C 22 dX10_writeBack_13 (by decide) ?_
      exact zx_lv [] [] rfl (j_X10_writeBack_22 C htab hin    hm)
  · cases hm
    exact zx_outV (σ := σ) C htab [] tC_0 k5 i6 Y_X0_demandPower W_5_130 W_3_113 W_3_114 (c_X0_demandPower h9) rfl (by decide) (by decide) rfl (Nat.le_of_ble_eq_true rfl) dX10_writeBack_4 rfl
abbrev cX10_apply : ByteArray := prog_1_method_40_code
def yX10_apply : MethodName := ⟨"SyncTree", "apply", "(I)I"⟩
theorem Y_X10_apply : tY yX10_apply cX10_apply 2 (some .int) 1 := ⟨W_6_100, W_1_1, ⟨by decide +kernel, by decide +kernel⟩, by decide +kernel⟩
theorem dX10_apply_0 : decode cX10_apply 0 = .ok (.aload_n 0, 1) := by decide +kernel
theorem dX10_apply_1 : decode cX10_apply 1 = .ok (.getfield 12, 3) := by decide +kernel
theorem dX10_apply_4 : decode cX10_apply 4 = .ok (.invokevirtual 221, 3) := by decide +kernel
theorem dX10_apply_7 : decode cX10_apply 7 = .ok (.iload_n 1, 1) := by decide +kernel
theorem dX10_apply_8 : decode cX10_apply 8 = .ok (.ifCond .ge 8, 3) := by decide +kernel
theorem dX10_apply_11 : decode cX10_apply 11 = .ok (.bipush (-9), 2) := by decide +kernel
theorem dX10_apply_13 : decode cX10_apply 13 = .ok (.goto 11, 3) := by decide +kernel
theorem dX10_apply_16 : decode cX10_apply 16 = .ok (.aload_n 0, 1) := by decide +kernel
theorem dX10_apply_17 : decode cX10_apply 17 = .ok (.getfield 37, 3) := by decide +kernel
theorem dX10_apply_20 : decode cX10_apply 20 = .ok (.iload_n 1, 1) := by decide +kernel
theorem dX10_apply_21 : decode cX10_apply 21 = .ok (.invokevirtual 340, 3) := by decide +kernel
theorem dX10_apply_24 : decode cX10_apply 24 = .ok (.ireturn, 1) := by decide +kernel
def J_X10_apply_24 (b0 fu : Nat)  (s0 : Int32) (σ : tM) : Option (((Int32) ⊕ Unit) × tM) := some (.inl (s0), σ)
def m_X10_apply (b0 fu : Nat) (a0 : Nat) (p0 : Int32) (σ : tM) : Option (((Int32) ⊕ Unit) × tM) := grw σ (ckO b0 (σ) (a0) 10 (osm (tA (σ) (a0) 0) (fun a3 => ckO b0 (σ) (a3) 0 (clx (m_X0_demandPower b0 fu (a3) (σ)) (fun v7 ρ8 => if (0) ≤ (p0) then ckO b0 (ρ8) (a0) 10 (osm (tA (ρ8) (a0) 3) (fun a13 => ckO b0 (ρ8) (a13) 1 (clx (m_X1_applySome b0 fu (a13) (p0) (ρ8)) (fun v17 ρ18 => J_X10_apply_24 b0 fu   (v17) (ρ18))))) else J_X10_apply_24 b0 fu   ((-9)) (ρ8))))))
set_option maxRecDepth 100000 in
set_option maxHeartbeats 1000000 in
theorem j_X10_apply_24 {p : Program} {l : Launch} {e : Env} {s : State} {m : MethodId} {args : Array Value} {below : List Frame} {meth : Method} {c : Code} {D : va_G} {aC : Nat → ClassId} {b0 fu : Nat} {σ0 τ : tM} {v : (Int32) ⊕ Unit}  (C : tCx p l s m args meth c yX10_apply.cls cX10_apply 2 (some .int) D aC b0 σ0) (htab : ∀ x ∈ c.exceptionTable.toList, False) (hin : meth.name = yX10_apply.name)  {s0 : Int32} {σ : tM} (hm : J_X10_apply_24 b0 fu  s0 σ = some (v, τ)) : tX p l e s m args below meth c 2 9 157 D aC b0 σ0 (rxI "java/lang/IllegalStateException" v) τ 24 [] [.int (s0)] σ := by
  unfold J_X10_apply_24 at hm
  obtain ⟨rfl, rfl⟩ := ret_e hm
  exact zx_iret C rfl rfl rfl dX10_apply_24
set_option maxRecDepth 100000 in
set_option maxHeartbeats 1000000 in
theorem c_X10_apply {l : Launch} {D : va_G} {aC : Nat → ClassId} {b0 fu : Nat} {a0 : Nat} {p0 : Int32} {σ τ : tM} {v : (Int32) ⊕ Unit} (hm : m_X10_apply b0 fu a0 p0 σ = some (v, τ)) : tMt l D aC b0 yX10_apply (Cond.code yX10_apply cX10_apply 2 (some .int)) 9 157 [.ref (a0), .int (p0)] σ (rxI "java/lang/IllegalStateException" v) τ := by
  unfold m_X10_apply at hm
  obtain ⟨hg, hm⟩ := grw_e hm
  refine tMt_of (n := 0) rfl (Nat.le_of_ble_eq_true rfl) hg ?_
  intro p e s m below meth c C htab hin
  refine zx_lv [0, 1] [(0, .ref (a0)), (1, .int (p0))] rfl ?_
  refine zx_aload_n C dX10_apply_0 0 rfl ?_
  obtain ⟨k1, i2, hm⟩ := ckO_e hm
  obtain ⟨a3, h4, hm⟩ := osm_e hm
  refine zx_get (j := 0) C tC_10 k1 i2 ⟨by decide, Or.inl W_2_213⟩ dX10_apply_1 (.ref a3) (rf_s h4) ?_
  obtain ⟨k5, i6, hm⟩ := ckO_e hm
  rcases clx_e hm with ⟨v7, ρ8, h9, hm⟩ | ⟨ρ8, h9, hm⟩
  · refine zx_callV (σ := σ) C [] tC_0 k5 i6 Y_X0_demandPower W_5_130 W_3_113 W_3_114 (c_X0_demandPower h9) (by decide) (by decide) rfl (Nat.le_of_ble_eq_true rfl) dX10_apply_4 rfl ?_
    refine zx_iload_n C dX10_apply_7 1 rfl ?_
    refine zx_if_ge C 16 dX10_apply_8 (by decide) (fun c10 => ?_) (fun c10 => ?_)
    · replace hm := ip_e hm c10
      refine zx_aload_n C dX10_apply_16 0 rfl ?_
      obtain ⟨k11, i12, hm⟩ := ckO_e hm
      obtain ⟨a13, h14, hm⟩ := osm_e hm
      refine zx_get (j := 3) C tC_10 k11 i12 ⟨by decide, Or.inl W_2_216⟩ dX10_apply_17 (.ref a13) (rf_s h14) ?_
      refine zx_iload_n C dX10_apply_20 1 rfl ?_
      obtain ⟨k15, i16, hm⟩ := ckO_e hm
      rcases clx_e hm with ⟨v17, ρ18, h19, hm⟩ | ⟨ρ18, h19, hm⟩
      · refine zx_callV (σ := ρ8) C [.int (p0)] tC_1 k15 i16 Y_X1_applySome W_6_101 W_3_234 W_3_235 (c_X1_applySome h19) (by decide) (by decide) rfl (Nat.le_of_ble_eq_true rfl) dX10_apply_21 rfl ?_
        exact zx_lv [] [] rfl (j_X10_apply_24 C htab hin    hm)
      · cases hm
        exact zx_outV (σ := ρ8) C htab [.int (p0)] tC_1 k15 i16 Y_X1_applySome W_6_101 W_3_234 W_3_235 (c_X1_applySome h19) rfl (by decide) (by decide) rfl (Nat.le_of_ble_eq_true rfl) dX10_apply_21 rfl
    · replace hm := in_e hm c10
      refine zx_bipush (v := (-9)) C dX10_apply_11 (by decide) ?_
      refine zx_goto C 24 dX10_apply_13 (by decide) ?_
      exact zx_lv [] [] rfl (j_X10_apply_24 C htab hin    hm)
  · cases hm
    exact zx_outV (σ := σ) C htab [] tC_0 k5 i6 Y_X0_demandPower W_5_130 W_3_113 W_3_114 (c_X0_demandPower h9) rfl (by decide) (by decide) rfl (Nat.le_of_ble_eq_true rfl) dX10_apply_4 rfl
abbrev cX12_commit : ByteArray := prog_13_method_21_code
def yX12_commit : MethodName := ⟨"SyncTreeModel", "commit", "()V"⟩
theorem Y_X12_commit : tY yX12_commit cX12_commit 3 none 0 := ⟨W_7_199, W_1_14, ⟨by decide +kernel, by decide +kernel⟩, by decide +kernel⟩
theorem dX12_commit_0 : decode cX12_commit 0 = .ok (.aload_n 0, 1) := by decide +kernel
theorem dX12_commit_1 : decode cX12_commit 1 = .ok (.invokevirtual 171, 3) := by decide +kernel
theorem dX12_commit_4 : decode cX12_commit 4 = .ok (.istore_n 1, 1) := by decide +kernel
theorem dX12_commit_5 : decode cX12_commit 5 = .ok (.iload_n 1, 1) := by decide +kernel
theorem dX12_commit_6 : decode cX12_commit 6 = .ok (.aload_n 0, 1) := by decide +kernel
theorem dX12_commit_7 : decode cX12_commit 7 = .ok (.invokevirtual 174, 3) := by decide +kernel
theorem dX12_commit_10 : decode cX12_commit 10 = .ok (.if_icmp .le 7, 3) := by decide +kernel
theorem dX12_commit_13 : decode cX12_commit 13 = .ok (.aload_n 0, 1) := by decide +kernel
theorem dX12_commit_14 : decode cX12_commit 14 = .ok (.invokevirtual 177, 3) := by decide +kernel
theorem dX12_commit_17 : decode cX12_commit 17 = .ok (.aload_n 0, 1) := by decide +kernel
theorem dX12_commit_18 : decode cX12_commit 18 = .ok (.iload_n 1, 1) := by decide +kernel
theorem dX12_commit_19 : decode cX12_commit 19 = .ok (.invokevirtual 180, 3) := by decide +kernel
theorem dX12_commit_22 : decode cX12_commit 22 = .ok (.iconst 0, 1) := by decide +kernel
theorem dX12_commit_23 : decode cX12_commit 23 = .ok (.istore_n 2, 1) := by decide +kernel
theorem dX12_commit_24 : decode cX12_commit 24 = .ok (.iload_n 2, 1) := by decide +kernel
theorem dX12_commit_25 : decode cX12_commit 25 = .ok (.iload_n 1, 1) := by decide +kernel
theorem dX12_commit_26 : decode cX12_commit 26 = .ok (.if_icmp .ge 32, 3) := by decide +kernel
theorem dX12_commit_29 : decode cX12_commit 29 = .ok (.aload_n 0, 1) := by decide +kernel
theorem dX12_commit_30 : decode cX12_commit 30 = .ok (.bipush 34, 2) := by decide +kernel
theorem dX12_commit_32 : decode cX12_commit 32 = .ok (.aload_n 0, 1) := by decide +kernel
theorem dX12_commit_33 : decode cX12_commit 33 = .ok (.getfield 161, 3) := by decide +kernel
theorem dX12_commit_36 : decode cX12_commit 36 = .ok (.iload_n 2, 1) := by decide +kernel
theorem dX12_commit_37 : decode cX12_commit 37 = .ok (.iadd, 1) := by decide +kernel
theorem dX12_commit_38 : decode cX12_commit 38 = .ok (.aload_n 0, 1) := by decide +kernel
theorem dX12_commit_39 : decode cX12_commit 39 = .ok (.getfield 38, 3) := by decide +kernel
theorem dX12_commit_42 : decode cX12_commit 42 = .ok (.irem, 1) := by decide +kernel
theorem dX12_commit_43 : decode cX12_commit 43 = .ok (.iadd, 1) := by decide +kernel
theorem dX12_commit_44 : decode cX12_commit 44 = .ok (.iconst 2, 1) := by decide +kernel
theorem dX12_commit_45 : decode cX12_commit 45 = .ok (.aload_n 0, 1) := by decide +kernel
theorem dX12_commit_46 : decode cX12_commit 46 = .ok (.getfield 158, 3) := by decide +kernel
theorem dX12_commit_49 : decode cX12_commit 49 = .ok (.invokevirtual 183, 3) := by decide +kernel
theorem dX12_commit_52 : decode cX12_commit 52 = .ok (.iinc 2 1, 3) := by decide +kernel
theorem dX12_commit_55 : decode cX12_commit 55 = .ok (.goto (-31), 3) := by decide +kernel
theorem dX12_commit_58 : decode cX12_commit 58 = .ok (.aload_n 0, 1) := by decide +kernel
theorem dX12_commit_59 : decode cX12_commit 59 = .ok (.aload_n 0, 1) := by decide +kernel
theorem dX12_commit_60 : decode cX12_commit 60 = .ok (.getfield 161, 3) := by decide +kernel
theorem dX12_commit_63 : decode cX12_commit 63 = .ok (.iload_n 1, 1) := by decide +kernel
theorem dX12_commit_64 : decode cX12_commit 64 = .ok (.iadd, 1) := by decide +kernel
theorem dX12_commit_65 : decode cX12_commit 65 = .ok (.aload_n 0, 1) := by decide +kernel
theorem dX12_commit_66 : decode cX12_commit 66 = .ok (.getfield 38, 3) := by decide +kernel
theorem dX12_commit_69 : decode cX12_commit 69 = .ok (.irem, 1) := by decide +kernel
theorem dX12_commit_70 : decode cX12_commit 70 = .ok (.putfield 161, 3) := by decide +kernel
theorem dX12_commit_73 : decode cX12_commit 73 = .ok (.aload_n 0, 1) := by decide +kernel
theorem dX12_commit_74 : decode cX12_commit 74 = .ok (.dup, 1) := by decide +kernel
theorem dX12_commit_75 : decode cX12_commit 75 = .ok (.getfield 122, 3) := by decide +kernel
theorem dX12_commit_78 : decode cX12_commit 78 = .ok (.iconst 1, 1) := by decide +kernel
theorem dX12_commit_79 : decode cX12_commit 79 = .ok (.iadd, 1) := by decide +kernel
theorem dX12_commit_80 : decode cX12_commit 80 = .ok (.putfield 122, 3) := by decide +kernel
theorem dX12_commit_83 : decode cX12_commit 83 = .ok (.aload_n 0, 1) := by decide +kernel
theorem dX12_commit_84 : decode cX12_commit 84 = .ok (.invokevirtual 187, 3) := by decide +kernel
theorem dX12_commit_87 : decode cX12_commit 87 = .ok (.iconst 0, 1) := by decide +kernel
theorem dX12_commit_88 : decode cX12_commit 88 = .ok (.istore_n 2, 1) := by decide +kernel
theorem dX12_commit_89 : decode cX12_commit 89 = .ok (.iload_n 2, 1) := by decide +kernel
theorem dX12_commit_90 : decode cX12_commit 90 = .ok (.aload_n 0, 1) := by decide +kernel
theorem dX12_commit_91 : decode cX12_commit 91 = .ok (.getfield 41, 3) := by decide +kernel
theorem dX12_commit_94 : decode cX12_commit 94 = .ok (.if_icmp .ge 31, 3) := by decide +kernel
theorem dX12_commit_97 : decode cX12_commit 97 = .ok (.aload_n 0, 1) := by decide +kernel
theorem dX12_commit_98 : decode cX12_commit 98 = .ok (.getfield 190, 3) := by decide +kernel
theorem dX12_commit_101 : decode cX12_commit 101 = .ok (.iload_n 2, 1) := by decide +kernel
theorem dX12_commit_102 : decode cX12_commit 102 = .ok (.iaload, 1) := by decide +kernel
theorem dX12_commit_103 : decode cX12_commit 103 = .ok (.iconst 1, 1) := by decide +kernel
theorem dX12_commit_104 : decode cX12_commit 104 = .ok (.if_icmp .ne 15, 3) := by decide +kernel
theorem dX12_commit_107 : decode cX12_commit 107 = .ok (.aload_n 0, 1) := by decide +kernel
theorem dX12_commit_108 : decode cX12_commit 108 = .ok (.getfield 190, 3) := by decide +kernel
theorem dX12_commit_111 : decode cX12_commit 111 = .ok (.iload_n 2, 1) := by decide +kernel
theorem dX12_commit_112 : decode cX12_commit 112 = .ok (.iconst 1, 1) := by decide +kernel
theorem dX12_commit_113 : decode cX12_commit 113 = .ok (.aload_n 0, 1) := by decide +kernel
theorem dX12_commit_114 : decode cX12_commit 114 = .ok (.getfield 122, 3) := by decide +kernel
theorem dX12_commit_117 : decode cX12_commit 117 = .ok (.iadd, 1) := by decide +kernel
theorem dX12_commit_118 : decode cX12_commit 118 = .ok (.iastore, 1) := by decide +kernel
theorem dX12_commit_119 : decode cX12_commit 119 = .ok (.iinc 2 1, 3) := by decide +kernel
theorem dX12_commit_122 : decode cX12_commit 122 = .ok (.goto (-33), 3) := by decide +kernel
theorem dX12_commit_125 : decode cX12_commit 125 = .ok (.return_, 1) := by decide +kernel
def J_X12_commit_119 (b0 fu : Nat) (rc89 : Nat → Int32 → tM → Option (((Unit) ⊕ Unit) × tM)) (x0 : Nat) (x2 : Int32) (σ : tM) : Option (((Unit) ⊕ Unit) × tM) := ltb ((x2) + Int32.ofInt 1) (fun y33 => rc89 (x0) (y33) (σ))
def L_X12_commit_89 (b0 fu : Nat)  : Nat → Nat → Int32 → tM → Option (((Unit) ⊕ Unit) × tM)
  | 0, _, _, _ => none
  | n + 1, x0, x2, σ => ltb (L_X12_commit_89 b0 fu  n) (fun rc89 => ckO b0 (σ) (x0) 11 (if (tI (σ) (x0) 7) ≤ (x2) then some (.inl (()), σ) else osm (tA (σ) (x0) 24) (fun a26 => ckR b0 (σ) (a26) 0 (fun n30 => ckI (x2) (n30) (if (tI (σ) (a26) ((x2).toNatClampNeg)) = (1) then osm (tA (σ) (x0) 24) (fun a34 => ckR b0 (σ) (a34) 0 (fun n38 => ckI (x2) (n38) (J_X12_commit_119 b0 fu rc89  (x0) (x2) (sI (σ) (a34) ((x2).toNatClampNeg) ((1) + (tI (σ) (x0) 28)))))) else J_X12_commit_119 b0 fu rc89  (x0) (x2) (σ))))))
def L_X12_commit_24 (b0 fu : Nat)  : Nat → Nat → Int32 → Int32 → tM → Option (((Unit) ⊕ Unit) × tM)
  | 0, _, _, _, _ => none
  | n + 1, x0, x1, x2, σ => ltb (L_X12_commit_24 b0 fu  n) (fun rc24 => if (x1) ≤ (x2) then ckO b0 (σ) (x0) 11 (ckD (tI (σ) (x0) 6) (cll (m_X12_emptyGroup b0 fu (x0) (sI (sI (σ) (x0) 33 (((tI (σ) (x0) 33) + (x1)) - ((tI (σ) (x0) 33) + (x1)) / (tI (σ) (x0) 6) * (tI (σ) (x0) 6))) (x0) 28 ((tI (sI (σ) (x0) 33 (((tI (σ) (x0) 33) + (x1)) - ((tI (σ) (x0) 33) + (x1)) / (tI (σ) (x0) 6) * (tI (σ) (x0) 6))) (x0) 28) + (1)))) (fun v20 ρ21 => L_X12_commit_89 b0 fu  (fu) (x0) (0) (ρ21)))) else ckO b0 (σ) (x0) 11 (ckD (tI (σ) (x0) 6) (clx (m_X12_version b0 fu (x0) ((34) + (((tI (σ) (x0) 33) + (x2)) - ((tI (σ) (x0) 33) + (x2)) / (tI (σ) (x0) 6) * (tI (σ) (x0) 6))) (2) (tI (σ) (x0) 34) (σ)) (fun v43 ρ44 => ltb ((x2) + Int32.ofInt 1) (fun y46 => rc24 (x0) (x1) (y46) (ρ44))))))
def J_X12_commit_17 (b0 fu : Nat)  (x0 : Nat) (x1 : Int32) (σ : tM) : Option (((Unit) ⊕ Unit) × tM) := ckO b0 (σ) (x0) 11 (cll (m_X12_record b0 fu (x0) (x1) (σ)) (fun v14 ρ15 => L_X12_commit_24 b0 fu  (fu) (x0) (x1) (0) (ρ15)))
def m_X12_commit (b0 fu : Nat) (a0 : Nat) (σ : tM) : Option (((Unit) ⊕ Unit) × tM) := grw σ (ckO b0 (σ) (a0) 11 (cll (m_X12_groupSize b0 fu (a0) (σ)) (fun v3 ρ4 => ckO b0 (ρ4) (a0) 11 (cll (m_X12_freeOfLog b0 fu (a0) (ρ4)) (fun v8 ρ9 => if (v3) ≤ (v8) then J_X12_commit_17 b0 fu   (a0) (v3) (ρ9) else ckO b0 (ρ9) (a0) 11 (clx (m_X12_checkpoint b0 fu (a0) (ρ9)) (fun v51 ρ52 => J_X12_commit_17 b0 fu   (a0) (v3) (ρ52))))))))
set_option maxRecDepth 100000 in
set_option maxHeartbeats 1000000 in
theorem j_X12_commit_119 {p : Program} {l : Launch} {e : Env} {s : State} {m : MethodId} {args : Array Value} {below : List Frame} {meth : Method} {c : Code} {D : va_G} {aC : Nat → ClassId} {b0 fu : Nat} {σ0 τ : tM} {v : (Unit) ⊕ Unit} {rc89 : Nat → Int32 → tM → Option (((Unit) ⊕ Unit) × tM)} (C : tCx p l s m args meth c yX12_commit.cls cX12_commit 3 none D aC b0 σ0) (htab : ∀ x ∈ c.exceptionTable.toList, False) (hin : meth.name = yX12_commit.name) (hrc89 : ∀ (x0 : Nat) (x2 : Int32) (ρ : tM), rc89 x0 x2 ρ = some (v, τ) → tX p l e s m args below meth c 3 6 138 D aC b0 σ0 (rxV "SyncTreeModel$Off" v) τ 89 [(0, .ref (x0)), (2, .int (x2))] [] ρ) {x0 : Nat} {x2 : Int32} {σ : tM} (hm : J_X12_commit_119 b0 fu rc89 x0 x2 σ = some (v, τ)) : tX p l e s m args below meth c 3 6 138 D aC b0 σ0 (rxV "SyncTreeModel$Off" v) τ 119 [(0, .ref (x0)), (2, .int (x2))] [] σ := by
  unfold J_X12_commit_119 at hm
  obtain ⟨y33, hy33⟩ : ∃ z : Int32, z = (x2) + Int32.ofInt 1 := ⟨_, rfl⟩
  replace hm := ltb_e hm hy33
  refine zx_iinc C [(2, .int (y33)), (0, .ref (x0))] dX12_commit_119 1 rfl hy33.symm (by decide) rfl ?_
  refine zx_goto C 89 dX12_commit_122 (by decide) ?_
  exact zx_lv [1, 0] [(0, .ref (x0)), (2, .int (y33))] rfl (hrc89 _ _ _ hm)
set_option maxRecDepth 100000 in
set_option maxHeartbeats 1000000 in
theorem l_X12_commit_89 {p : Program} {l : Launch} {e : Env} {s : State} {m : MethodId} {args : Array Value} {below : List Frame} {meth : Method} {c : Code} {D : va_G} {aC : Nat → ClassId} {b0 fu : Nat} {σ0 τ : tM} {v : (Unit) ⊕ Unit}  (C : tCx p l s m args meth c yX12_commit.cls cX12_commit 3 none D aC b0 σ0) (htab : ∀ x ∈ c.exceptionTable.toList, False) (hin : meth.name = yX12_commit.name)  : ∀ (n : Nat) (x0 : Nat) (x2 : Int32) (σ : tM), L_X12_commit_89 b0 fu  n x0 x2 σ = some (v, τ) → tX p l e s m args below meth c 3 6 138 D aC b0 σ0 (rxV "SyncTreeModel$Off" v) τ 89 [(0, .ref (x0)), (2, .int (x2))] [] σ := by
  intro n
  induction n with
  | zero => intro x0 x2 σ hm; unfold L_X12_commit_89 at hm; cases hm
  | succ n ih =>
    intro x0 x2 σ hm
    unfold L_X12_commit_89 at hm
    obtain ⟨rc89, hrc⟩ : ∃ z, z = L_X12_commit_89 b0 fu  n := ⟨_, rfl⟩
    replace hm := ltb_e hm hrc
    rw [← hrc] at ih
    have hrc89 := ih
    clear ih hrc
    refine zx_iload_n C dX12_commit_89 1 rfl ?_
    refine zx_aload_n C dX12_commit_90 0 rfl ?_
    obtain ⟨k23, i24, hm⟩ := ckO_e hm
    refine zx_get (j := 7) C tC_11 k23 i24 ⟨by decide, Or.inl W_6_226⟩ dX12_commit_91 (.int (tI (σ) (x0) 7)) rfl ?_
    refine zx_icmp_ge C 125 dX12_commit_94 (by decide) (fun c25 => ?_) (fun c25 => ?_)
    · replace hm := ip_e hm c25
      obtain ⟨rfl, rfl⟩ := ret_e hm
      exact zx_vret C rfl rfl rfl dX12_commit_125
    · replace hm := in_e hm c25
      refine zx_aload_n C dX12_commit_97 0 rfl ?_
      obtain ⟨a26, h27, hm⟩ := osm_e hm
      refine zx_get (j := 24) C tC_11 k23 i24 ⟨by decide, Or.inl W_7_3⟩ dX12_commit_98 (.ref a26) (rf_s h27) ?_
      refine zx_iload_n C dX12_commit_101 1 rfl ?_
      obtain ⟨n30, k28, i29, hm⟩ := ckR_e hm
      obtain ⟨h31, hm⟩ := ckI_e hm
      refine zx_iald C k28 i29 h31 dX12_commit_102 ?_
      refine zx_iconst (v := 1) C dX12_commit_103 (by decide) ?_
      refine zx_icmp_ne C 119 dX12_commit_104 (by decide) (fun c32 => ?_) (fun c32 => ?_)
      · replace hm := in_e hm c32
        exact zx_lv [0, 1] [(0, .ref (x0)), (2, .int (x2))] rfl (j_X12_commit_119 C htab hin hrc89   hm)
      · replace hm := ip_e hm c32
        refine zx_aload_n C dX12_commit_107 0 rfl ?_
        obtain ⟨a34, h35, hm⟩ := osm_e hm
        refine zx_get (j := 24) C tC_11 k23 i24 ⟨by decide, Or.inl W_7_3⟩ dX12_commit_108 (.ref a34) (rf_s h35) ?_
        refine zx_iload_n C dX12_commit_111 1 rfl ?_
        refine zx_iconst (v := 1) C dX12_commit_112 (by decide) ?_
        refine zx_aload_n C dX12_commit_113 0 rfl ?_
        refine zx_get (j := 28) C tC_11 k23 i24 ⟨by decide, Or.inl W_7_7⟩ dX12_commit_114 (.int (tI (σ) (x0) 28)) rfl ?_
        refine zx_iadd C dX12_commit_117 ?_
        obtain ⟨n38, k36, i37, hm⟩ := ckR_e hm
        obtain ⟨h39, hm⟩ := ckI_e hm
        refine zx_iast C k36 i37 h39 dX12_commit_118 ?_
        exact zx_lv [0, 1] [(0, .ref (x0)), (2, .int (x2))] rfl (j_X12_commit_119 C htab hin hrc89   hm)
set_option maxRecDepth 100000 in
set_option maxHeartbeats 1000000 in
theorem l_X12_commit_24 {p : Program} {l : Launch} {e : Env} {s : State} {m : MethodId} {args : Array Value} {below : List Frame} {meth : Method} {c : Code} {D : va_G} {aC : Nat → ClassId} {b0 fu : Nat} {σ0 τ : tM} {v : (Unit) ⊕ Unit}  (C : tCx p l s m args meth c yX12_commit.cls cX12_commit 3 none D aC b0 σ0) (htab : ∀ x ∈ c.exceptionTable.toList, False) (hin : meth.name = yX12_commit.name)  : ∀ (n : Nat) (x0 : Nat) (x1 : Int32) (x2 : Int32) (σ : tM), L_X12_commit_24 b0 fu  n x0 x1 x2 σ = some (v, τ) → tX p l e s m args below meth c 3 6 138 D aC b0 σ0 (rxV "SyncTreeModel$Off" v) τ 24 [(0, .ref (x0)), (1, .int (x1)), (2, .int (x2))] [] σ := by
  intro n
  induction n with
  | zero => intro x0 x1 x2 σ hm; unfold L_X12_commit_24 at hm; cases hm
  | succ n ih =>
    intro x0 x1 x2 σ hm
    unfold L_X12_commit_24 at hm
    obtain ⟨rc24, hrc⟩ : ∃ z, z = L_X12_commit_24 b0 fu  n := ⟨_, rfl⟩
    replace hm := ltb_e hm hrc
    rw [← hrc] at ih
    have hrc24 := ih
    clear ih hrc
    refine zx_iload_n C dX12_commit_24 2 rfl ?_
    refine zx_iload_n C dX12_commit_25 1 rfl ?_
    refine zx_icmp_ge C 58 dX12_commit_26 (by decide) (fun c17 => ?_) (fun c17 => ?_)
    · replace hm := ip_e hm c17
      refine zx_aload_n C dX12_commit_58 0 rfl ?_
      refine zx_aload_n C dX12_commit_59 0 rfl ?_
      obtain ⟨k18, i19, hm⟩ := ckO_e hm
      refine zx_get (j := 33) C tC_11 k18 i19 ⟨by decide, Or.inl W_7_12⟩ dX12_commit_60 (.int (tI (σ) (x0) 33)) rfl ?_
      refine zx_iload_n C dX12_commit_63 1 rfl ?_
      refine zx_iadd C dX12_commit_64 ?_
      refine zx_aload_n C dX12_commit_65 0 rfl ?_
      refine zx_get (j := 6) C tC_11 k18 i19 ⟨by decide, Or.inl W_6_225⟩ dX12_commit_66 (.int (tI (σ) (x0) 6)) rfl ?_
      obtain ⟨h40, hm⟩ := ckD_e hm
      refine zx_irem C dX12_commit_69 h40 ?_
      refine zx_put (j := 33) (ρ := sI (σ) (x0) 33 (((tI (σ) (x0) 33) + (x1)) - ((tI (σ) (x0) 33) + (x1)) / (tI (σ) (x0) 6) * (tI (σ) (x0) 6))) C tC_11 k18 i19 ⟨by decide, Or.inl W_7_12⟩ rfl rfl rfl (sI_ok (fun _ => rfl)) dX12_commit_70 ?_
      refine zx_aload_n C dX12_commit_73 0 rfl ?_
      refine zx_dup C dX12_commit_74 rfl ?_
      refine zx_get (j := 28) C tC_11 k18 i19 ⟨by decide, Or.inl W_7_7⟩ dX12_commit_75 (.int (tI (sI (σ) (x0) 33 (((tI (σ) (x0) 33) + (x1)) - ((tI (σ) (x0) 33) + (x1)) / (tI (σ) (x0) 6) * (tI (σ) (x0) 6))) (x0) 28)) rfl ?_
      refine zx_iconst (v := 1) C dX12_commit_78 (by decide) ?_
      refine zx_iadd C dX12_commit_79 ?_
      refine zx_put (j := 28) (ρ := sI (sI (σ) (x0) 33 (((tI (σ) (x0) 33) + (x1)) - ((tI (σ) (x0) 33) + (x1)) / (tI (σ) (x0) 6) * (tI (σ) (x0) 6))) (x0) 28 ((tI (sI (σ) (x0) 33 (((tI (σ) (x0) 33) + (x1)) - ((tI (σ) (x0) 33) + (x1)) / (tI (σ) (x0) 6) * (tI (σ) (x0) 6))) (x0) 28) + (1))) C tC_11 k18 i19 ⟨by decide, Or.inl W_7_7⟩ rfl rfl rfl (sI_ok (fun _ => rfl)) dX12_commit_80 ?_
      refine zx_aload_n C dX12_commit_83 0 rfl ?_
      obtain ⟨v20, ρ21, h22, hm⟩ := cll_e hm
      refine zx_callV (σ := sI (sI (σ) (x0) 33 (((tI (σ) (x0) 33) + (x1)) - ((tI (σ) (x0) 33) + (x1)) / (tI (σ) (x0) 6) * (tI (σ) (x0) 6))) (x0) 28 ((tI (sI (σ) (x0) 33 (((tI (σ) (x0) 33) + (x1)) - ((tI (σ) (x0) 33) + (x1)) / (tI (σ) (x0) 6) * (tI (σ) (x0) 6))) (x0) 28) + (1))) C [] tC_11 k18 i19 Y_X12_emptyGroup W_6_212 W_6_214 Wp_54 (c_X12_emptyGroup h22) (by decide) (by decide) rfl (Nat.le_of_ble_eq_true rfl) dX12_commit_84 rfl ?_
      refine zx_iconst (v := 0) C dX12_commit_87 (by decide) ?_
      refine zx_istore_n C [(2, .int (0)), (0, .ref (x0)), (1, .int (x1))] dX12_commit_88 rfl (by decide) rfl ?_
      exact zx_lv [1, 0] [(0, .ref (x0)), (2, .int (0))] rfl (l_X12_commit_89 C htab hin  _ _ _ _ hm)
    · replace hm := in_e hm c17
      refine zx_aload_n C dX12_commit_29 0 rfl ?_
      refine zx_bipush (v := 34) C dX12_commit_30 (by decide) ?_
      refine zx_aload_n C dX12_commit_32 0 rfl ?_
      obtain ⟨k41, i42, hm⟩ := ckO_e hm
      refine zx_get (j := 33) C tC_11 k41 i42 ⟨by decide, Or.inl W_7_12⟩ dX12_commit_33 (.int (tI (σ) (x0) 33)) rfl ?_
      refine zx_iload_n C dX12_commit_36 2 rfl ?_
      refine zx_iadd C dX12_commit_37 ?_
      refine zx_aload_n C dX12_commit_38 0 rfl ?_
      refine zx_get (j := 6) C tC_11 k41 i42 ⟨by decide, Or.inl W_6_225⟩ dX12_commit_39 (.int (tI (σ) (x0) 6)) rfl ?_
      obtain ⟨h48, hm⟩ := ckD_e hm
      refine zx_irem C dX12_commit_42 h48 ?_
      refine zx_iadd C dX12_commit_43 ?_
      refine zx_iconst (v := 2) C dX12_commit_44 (by decide) ?_
      refine zx_aload_n C dX12_commit_45 0 rfl ?_
      refine zx_get (j := 34) C tC_11 k41 i42 ⟨by decide, Or.inl W_7_13⟩ dX12_commit_46 (.int (tI (σ) (x0) 34)) rfl ?_
      rcases clx_e hm with ⟨v43, ρ44, h45, hm⟩ | ⟨ρ44, h45, hm⟩
      · refine zx_callV (σ := σ) C [.int ((34) + (((tI (σ) (x0) 33) + (x2)) - ((tI (σ) (x0) 33) + (x2)) / (tI (σ) (x0) 6) * (tI (σ) (x0) 6))), .int (2), .int (tI (σ) (x0) 34)] tC_11 k41 i42 Y_X12_version W_7_237 W_7_239 Wp_70 (c_X12_version h45) (by decide) (by decide) rfl (Nat.le_of_ble_eq_true rfl) dX12_commit_49 rfl ?_
        obtain ⟨y46, hy46⟩ : ∃ z : Int32, z = (x2) + Int32.ofInt 1 := ⟨_, rfl⟩
        replace hm := ltb_e hm hy46
        refine zx_iinc C [(2, .int (y46)), (0, .ref (x0)), (1, .int (x1))] dX12_commit_52 2 rfl hy46.symm (by decide) rfl ?_
        refine zx_goto C 24 dX12_commit_55 (by decide) ?_
        exact zx_lv [1, 2, 0] [(0, .ref (x0)), (1, .int (x1)), (2, .int (y46))] rfl (hrc24 _ _ _ _ hm)
      · cases hm
        exact zx_outV (σ := σ) C htab [.int ((34) + (((tI (σ) (x0) 33) + (x2)) - ((tI (σ) (x0) 33) + (x2)) / (tI (σ) (x0) 6) * (tI (σ) (x0) 6))), .int (2), .int (tI (σ) (x0) 34)] tC_11 k41 i42 Y_X12_version W_7_237 W_7_239 Wp_70 (c_X12_version h45) rfl (by decide) (by decide) rfl (Nat.le_of_ble_eq_true rfl) dX12_commit_49 rfl
set_option maxRecDepth 100000 in
set_option maxHeartbeats 1000000 in
theorem j_X12_commit_17 {p : Program} {l : Launch} {e : Env} {s : State} {m : MethodId} {args : Array Value} {below : List Frame} {meth : Method} {c : Code} {D : va_G} {aC : Nat → ClassId} {b0 fu : Nat} {σ0 τ : tM} {v : (Unit) ⊕ Unit}  (C : tCx p l s m args meth c yX12_commit.cls cX12_commit 3 none D aC b0 σ0) (htab : ∀ x ∈ c.exceptionTable.toList, False) (hin : meth.name = yX12_commit.name)  {x0 : Nat} {x1 : Int32} {σ : tM} (hm : J_X12_commit_17 b0 fu  x0 x1 σ = some (v, τ)) : tX p l e s m args below meth c 3 6 138 D aC b0 σ0 (rxV "SyncTreeModel$Off" v) τ 17 [(0, .ref (x0)), (1, .int (x1))] [] σ := by
  unfold J_X12_commit_17 at hm
  refine zx_aload_n C dX12_commit_17 0 rfl ?_
  refine zx_iload_n C dX12_commit_18 1 rfl ?_
  obtain ⟨k12, i13, hm⟩ := ckO_e hm
  obtain ⟨v14, ρ15, h16, hm⟩ := cll_e hm
  refine zx_callV (σ := σ) C [.int (x1)] tC_11 k12 i13 Y_X12_record W_8_9 W_8_11 Wp_73 (c_X12_record h16) (by decide) (by decide) rfl (Nat.le_of_ble_eq_true rfl) dX12_commit_19 rfl ?_
  refine zx_iconst (v := 0) C dX12_commit_22 (by decide) ?_
  refine zx_istore_n C [(2, .int (0)), (0, .ref (x0)), (1, .int (x1))] dX12_commit_23 rfl (by decide) rfl ?_
  exact zx_lv [1, 2, 0] [(0, .ref (x0)), (1, .int (x1)), (2, .int (0))] rfl (l_X12_commit_24 C htab hin  _ _ _ _ _ hm)
set_option maxRecDepth 100000 in
set_option maxHeartbeats 1000000 in
theorem c_X12_commit {l : Launch} {D : va_G} {aC : Nat → ClassId} {b0 fu : Nat} {a0 : Nat} {σ τ : tM} {v : (Unit) ⊕ Unit} (hm : m_X12_commit b0 fu a0 σ = some (v, τ)) : tMt l D aC b0 yX12_commit (Cond.code yX12_commit cX12_commit 3 none) 6 138 [.ref (a0)] σ (rxV "SyncTreeModel$Off" v) τ := by
  unfold m_X12_commit at hm
  obtain ⟨hg, hm⟩ := grw_e hm
  refine tMt_of (n := 0) rfl (Nat.le_of_ble_eq_true rfl) hg ?_
  intro p e s m below meth c C htab hin
  refine zx_lv [0] [(0, .ref (a0))] rfl ?_
  refine zx_aload_n C dX12_commit_0 0 rfl ?_
  obtain ⟨k1, i2, hm⟩ := ckO_e hm
  obtain ⟨v3, ρ4, h5, hm⟩ := cll_e hm
  refine zx_callV (σ := σ) C [] tC_11 k1 i2 Y_X12_groupSize W_7_189 W_7_191 Wp_59 (c_X12_groupSize h5) (by decide) (by decide) rfl (Nat.le_of_ble_eq_true rfl) dX12_commit_1 rfl ?_
  refine zx_istore_n C [(1, .int (v3)), (0, .ref (a0))] dX12_commit_4 rfl (by decide) rfl ?_
  refine zx_iload_n C dX12_commit_5 0 rfl ?_
  refine zx_aload_n C dX12_commit_6 1 rfl ?_
  obtain ⟨k6, i7, hm⟩ := ckO_e hm
  obtain ⟨v8, ρ9, h10, hm⟩ := cll_e hm
  refine zx_callV (σ := ρ4) C [] tC_11 k6 i7 Y_X12_freeOfLog W_7_200 W_7_202 Wp_61 (c_X12_freeOfLog h10) (by decide) (by decide) rfl (Nat.le_of_ble_eq_true rfl) dX12_commit_7 rfl ?_
  refine zx_icmp_le C 17 dX12_commit_10 (by decide) (fun c11 => ?_) (fun c11 => ?_)
  · replace hm := ip_e hm c11
    exact zx_lv [1, 0] [(0, .ref (a0)), (1, .int (v3))] rfl (j_X12_commit_17 C htab hin    hm)
  · replace hm := in_e hm c11
    refine zx_aload_n C dX12_commit_13 1 rfl ?_
    obtain ⟨k49, i50, hm⟩ := ckO_e hm
    rcases clx_e hm with ⟨v51, ρ52, h53, hm⟩ | ⟨ρ52, h53, hm⟩
    · refine zx_callV (σ := ρ9) C [] tC_11 k49 i50 Y_X12_checkpoint W_7_204 W_7_206 Wp_62 (c_X12_checkpoint h53) (by decide) (by decide) rfl (Nat.le_of_ble_eq_true rfl) dX12_commit_14 rfl ?_
      exact zx_lv [1, 0] [(0, .ref (a0)), (1, .int (v3))] rfl (j_X12_commit_17 C htab hin    hm)
    · cases hm
      exact zx_outV (σ := ρ9) C htab [] tC_11 k49 i50 Y_X12_checkpoint W_7_204 W_7_206 Wp_62 (c_X12_checkpoint h53) rfl (by decide) (by decide) rfl (Nat.le_of_ble_eq_true rfl) dX12_commit_14 rfl
abbrev cX12_postAhead : ByteArray := prog_13_method_28_code
def yX12_postAhead : MethodName := ⟨"SyncTreeModel", "postAhead", "()V"⟩
theorem Y_X12_postAhead : tY yX12_postAhead cX12_postAhead 1 none 0 := ⟨W_7_188, W_1_14, ⟨by decide +kernel, by decide +kernel⟩, by decide +kernel⟩
theorem dX12_postAhead_0 : decode cX12_postAhead 0 = .ok (.aload_n 0, 1) := by decide +kernel
theorem dX12_postAhead_1 : decode cX12_postAhead 1 = .ok (.invokevirtual 171, 3) := by decide +kernel
theorem dX12_postAhead_4 : decode cX12_postAhead 4 = .ok (.aload_n 0, 1) := by decide +kernel
theorem dX12_postAhead_5 : decode cX12_postAhead 5 = .ok (.getfield 38, 3) := by decide +kernel
theorem dX12_postAhead_8 : decode cX12_postAhead 8 = .ok (.iconst 2, 1) := by decide +kernel
theorem dX12_postAhead_9 : decode cX12_postAhead 9 = .ok (.idiv, 1) := by decide +kernel
theorem dX12_postAhead_10 : decode cX12_postAhead 10 = .ok (.if_icmp .le 7, 3) := by decide +kernel
theorem dX12_postAhead_13 : decode cX12_postAhead 13 = .ok (.aload_n 0, 1) := by decide +kernel
theorem dX12_postAhead_14 : decode cX12_postAhead 14 = .ok (.invokevirtual 230, 3) := by decide +kernel
theorem dX12_postAhead_17 : decode cX12_postAhead 17 = .ok (.return_, 1) := by decide +kernel
def J_X12_postAhead_17 (b0 fu : Nat)   (σ : tM) : Option (((Unit) ⊕ Unit) × tM) := some (.inl (()), σ)
def m_X12_postAhead (b0 fu : Nat) (a0 : Nat) (σ : tM) : Option (((Unit) ⊕ Unit) × tM) := grw σ (ckO b0 (σ) (a0) 11 (cll (m_X12_groupSize b0 fu (a0) (σ)) (fun v3 ρ4 => ckO b0 (ρ4) (a0) 11 (if (v3) ≤ ((tI (ρ4) (a0) 6) / (2)) then J_X12_postAhead_17 b0 fu    (ρ4) else clx (m_X12_commit b0 fu (a0) (ρ4)) (fun v9 ρ10 => J_X12_postAhead_17 b0 fu    (ρ10))))))
set_option maxRecDepth 100000 in
set_option maxHeartbeats 1000000 in
theorem j_X12_postAhead_17 {p : Program} {l : Launch} {e : Env} {s : State} {m : MethodId} {args : Array Value} {below : List Frame} {meth : Method} {c : Code} {D : va_G} {aC : Nat → ClassId} {b0 fu : Nat} {σ0 τ : tM} {v : (Unit) ⊕ Unit}  (C : tCx p l s m args meth c yX12_postAhead.cls cX12_postAhead 1 none D aC b0 σ0) (htab : ∀ x ∈ c.exceptionTable.toList, False) (hin : meth.name = yX12_postAhead.name)   {σ : tM} (hm : J_X12_postAhead_17 b0 fu   σ = some (v, τ)) : tX p l e s m args below meth c 1 7 160 D aC b0 σ0 (rxV "SyncTreeModel$Off" v) τ 17 [] [] σ := by
  unfold J_X12_postAhead_17 at hm
  obtain ⟨rfl, rfl⟩ := ret_e hm
  exact zx_vret C rfl rfl rfl dX12_postAhead_17
set_option maxRecDepth 100000 in
set_option maxHeartbeats 1000000 in
theorem c_X12_postAhead {l : Launch} {D : va_G} {aC : Nat → ClassId} {b0 fu : Nat} {a0 : Nat} {σ τ : tM} {v : (Unit) ⊕ Unit} (hm : m_X12_postAhead b0 fu a0 σ = some (v, τ)) : tMt l D aC b0 yX12_postAhead (Cond.code yX12_postAhead cX12_postAhead 1 none) 7 160 [.ref (a0)] σ (rxV "SyncTreeModel$Off" v) τ := by
  unfold m_X12_postAhead at hm
  obtain ⟨hg, hm⟩ := grw_e hm
  refine tMt_of (n := 0) rfl (Nat.le_of_ble_eq_true rfl) hg ?_
  intro p e s m below meth c C htab hin
  refine zx_lv [0] [(0, .ref (a0))] rfl ?_
  refine zx_aload_n C dX12_postAhead_0 0 rfl ?_
  obtain ⟨k1, i2, hm⟩ := ckO_e hm
  obtain ⟨v3, ρ4, h5, hm⟩ := cll_e hm
  refine zx_callV (σ := σ) C [] tC_11 k1 i2 Y_X12_groupSize W_7_189 W_7_191 Wp_59 (c_X12_groupSize h5) (by decide) (by decide) rfl (Nat.le_of_ble_eq_true rfl) dX12_postAhead_1 rfl ?_
  refine zx_aload_n C dX12_postAhead_4 0 rfl ?_
  obtain ⟨k6, i7, hm⟩ := ckO_e hm
  refine zx_get (j := 6) C tC_11 k6 i7 ⟨by decide, Or.inl W_6_225⟩ dX12_postAhead_5 (.int (tI (ρ4) (a0) 6)) rfl ?_
  refine zx_iconst (v := 2) C dX12_postAhead_8 (by decide) ?_
  refine zx_idiv C dX12_postAhead_9 (by decide) ?_
  refine zx_icmp_le C 17 dX12_postAhead_10 (by decide) (fun c8 => ?_) (fun c8 => ?_)
  · replace hm := ip_e hm c8
    exact zx_lv [] [] rfl (j_X12_postAhead_17 C htab hin    hm)
  · replace hm := in_e hm c8
    refine zx_aload_n C dX12_postAhead_13 0 rfl ?_
    rcases clx_e hm with ⟨v9, ρ10, h11, hm⟩ | ⟨ρ10, h11, hm⟩
    · refine zx_callV (σ := ρ4) C [] tC_11 k6 i7 Y_X12_commit W_7_196 W_7_198 Wp_60 (c_X12_commit h11) (by decide) (by decide) rfl (Nat.le_of_ble_eq_true rfl) dX12_postAhead_14 rfl ?_
      exact zx_lv [] [] rfl (j_X12_postAhead_17 C htab hin    hm)
    · cases hm
      exact zx_outV (σ := ρ4) C htab [] tC_11 k6 i7 Y_X12_commit W_7_196 W_7_198 Wp_60 (c_X12_commit h11) rfl (by decide) (by decide) rfl (Nat.le_of_ble_eq_true rfl) dX12_postAhead_14 rfl
