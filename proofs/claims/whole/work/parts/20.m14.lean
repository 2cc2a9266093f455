abbrev cX10_refuseMove : ByteArray := prog_1_method_16_code
def yX10_refuseMove : MethodName := ⟨"SyncTree", "refuseMove", "(III)I"⟩
theorem Y_X10_refuseMove : tY yX10_refuseMove cX10_refuseMove 4 (some .int) 3 := ⟨W_5_109, W_1_1, ⟨by decide +kernel, by decide +kernel⟩, by decide +kernel⟩
theorem dX10_refuseMove_0 : decode cX10_refuseMove 0 = .ok (.aload_n 0, 1) := by decide +kernel
theorem dX10_refuseMove_1 : decode cX10_refuseMove 1 = .ok (.getfield 28, 3) := by decide +kernel
theorem dX10_refuseMove_4 : decode cX10_refuseMove 4 = .ok (.iload_n 1, 1) := by decide +kernel
theorem dX10_refuseMove_5 : decode cX10_refuseMove 5 = .ok (.invokevirtual 168, 3) := by decide +kernel
theorem dX10_refuseMove_8 : decode cX10_refuseMove 8 = .ok (.iconst 2, 1) := by decide +kernel
theorem dX10_refuseMove_9 : decode cX10_refuseMove 9 = .ok (.if_icmp .ne 55, 3) := by decide +kernel
theorem dX10_refuseMove_12 : decode cX10_refuseMove 12 = .ok (.aload_n 0, 1) := by decide +kernel
theorem dX10_refuseMove_13 : decode cX10_refuseMove 13 = .ok (.getfield 28, 3) := by decide +kernel
theorem dX10_refuseMove_16 : decode cX10_refuseMove 16 = .ok (.iload_n 2, 1) := by decide +kernel
theorem dX10_refuseMove_17 : decode cX10_refuseMove 17 = .ok (.iload_n 1, 1) := by decide +kernel
theorem dX10_refuseMove_18 : decode cX10_refuseMove 18 = .ok (.invokevirtual 211, 3) := by decide +kernel
theorem dX10_refuseMove_21 : decode cX10_refuseMove 21 = .ok (.ifCond .eq 6, 3) := by decide +kernel
theorem dX10_refuseMove_24 : decode cX10_refuseMove 24 = .ok (.bipush (-9), 2) := by decide +kernel
theorem dX10_refuseMove_26 : decode cX10_refuseMove 26 = .ok (.ireturn, 1) := by decide +kernel
theorem dX10_refuseMove_27 : decode cX10_refuseMove 27 = .ok (.iload_n 3, 1) := by decide +kernel
theorem dX10_refuseMove_28 : decode cX10_refuseMove 28 = .ok (.ifCond .lt 18, 3) := by decide +kernel
theorem dX10_refuseMove_31 : decode cX10_refuseMove 31 = .ok (.aload_n 0, 1) := by decide +kernel
theorem dX10_refuseMove_32 : decode cX10_refuseMove 32 = .ok (.getfield 28, 3) := by decide +kernel
theorem dX10_refuseMove_35 : decode cX10_refuseMove 35 = .ok (.iload_n 3, 1) := by decide +kernel
theorem dX10_refuseMove_36 : decode cX10_refuseMove 36 = .ok (.invokevirtual 168, 3) := by decide +kernel
theorem dX10_refuseMove_39 : decode cX10_refuseMove 39 = .ok (.iconst 2, 1) := by decide +kernel
theorem dX10_refuseMove_40 : decode cX10_refuseMove 40 = .ok (.if_icmp .eq 6, 3) := by decide +kernel
theorem dX10_refuseMove_43 : decode cX10_refuseMove 43 = .ok (.bipush (-3), 2) := by decide +kernel
theorem dX10_refuseMove_45 : decode cX10_refuseMove 45 = .ok (.ireturn, 1) := by decide +kernel
theorem dX10_refuseMove_46 : decode cX10_refuseMove 46 = .ok (.iload_n 3, 1) := by decide +kernel
theorem dX10_refuseMove_47 : decode cX10_refuseMove 47 = .ok (.ifCond .lt 36, 3) := by decide +kernel
theorem dX10_refuseMove_50 : decode cX10_refuseMove 50 = .ok (.aload_n 0, 1) := by decide +kernel
theorem dX10_refuseMove_51 : decode cX10_refuseMove 51 = .ok (.getfield 28, 3) := by decide +kernel
theorem dX10_refuseMove_54 : decode cX10_refuseMove 54 = .ok (.iload_n 3, 1) := by decide +kernel
theorem dX10_refuseMove_55 : decode cX10_refuseMove 55 = .ok (.invokevirtual 193, 3) := by decide +kernel
theorem dX10_refuseMove_58 : decode cX10_refuseMove 58 = .ok (.ifCond .eq 25, 3) := by decide +kernel
theorem dX10_refuseMove_61 : decode cX10_refuseMove 61 = .ok (.bipush (-5), 2) := by decide +kernel
theorem dX10_refuseMove_63 : decode cX10_refuseMove 63 = .ok (.ireturn, 1) := by decide +kernel
theorem dX10_refuseMove_64 : decode cX10_refuseMove 64 = .ok (.iload_n 3, 1) := by decide +kernel
theorem dX10_refuseMove_65 : decode cX10_refuseMove 65 = .ok (.ifCond .lt 18, 3) := by decide +kernel
theorem dX10_refuseMove_68 : decode cX10_refuseMove 68 = .ok (.aload_n 0, 1) := by decide +kernel
theorem dX10_refuseMove_69 : decode cX10_refuseMove 69 = .ok (.getfield 28, 3) := by decide +kernel
theorem dX10_refuseMove_72 : decode cX10_refuseMove 72 = .ok (.iload_n 3, 1) := by decide +kernel
theorem dX10_refuseMove_73 : decode cX10_refuseMove 73 = .ok (.invokevirtual 168, 3) := by decide +kernel
theorem dX10_refuseMove_76 : decode cX10_refuseMove 76 = .ok (.iconst 2, 1) := by decide +kernel
theorem dX10_refuseMove_77 : decode cX10_refuseMove 77 = .ok (.if_icmp .ne 6, 3) := by decide +kernel
theorem dX10_refuseMove_80 : decode cX10_refuseMove 80 = .ok (.bipush (-4), 2) := by decide +kernel
theorem dX10_refuseMove_82 : decode cX10_refuseMove 82 = .ok (.ireturn, 1) := by decide +kernel
theorem dX10_refuseMove_83 : decode cX10_refuseMove 83 = .ok (.iload_n 3, 1) := by decide +kernel
theorem dX10_refuseMove_84 : decode cX10_refuseMove 84 = .ok (.ifCond .ge 19, 3) := by decide +kernel
theorem dX10_refuseMove_87 : decode cX10_refuseMove 87 = .ok (.aload_n 0, 1) := by decide +kernel
theorem dX10_refuseMove_88 : decode cX10_refuseMove 88 = .ok (.getfield 28, 3) := by decide +kernel
theorem dX10_refuseMove_91 : decode cX10_refuseMove 91 = .ok (.iload_n 2, 1) := by decide +kernel
theorem dX10_refuseMove_92 : decode cX10_refuseMove 92 = .ok (.invokevirtual 142, 3) := by decide +kernel
theorem dX10_refuseMove_95 : decode cX10_refuseMove 95 = .ok (.ifCond .ne 8, 3) := by decide +kernel
theorem dX10_refuseMove_98 : decode cX10_refuseMove 98 = .ok (.bipush (-6), 2) := by decide +kernel
theorem dX10_refuseMove_100 : decode cX10_refuseMove 100 = .ok (.goto 4, 3) := by decide +kernel
theorem dX10_refuseMove_103 : decode cX10_refuseMove 103 = .ok (.iconst 0, 1) := by decide +kernel
theorem dX10_refuseMove_104 : decode cX10_refuseMove 104 = .ok (.ireturn, 1) := by decide +kernel
def J_X10_refuseMove_104 (b0 fu : Nat)  (s0 : Int32) (σ : tM) : Option ((Int32) × tM) := some (s0, σ)
def J_X10_refuseMove_103 (b0 fu : Nat)   (σ : tM) : Option ((Int32) × tM) := J_X10_refuseMove_104 b0 fu   (0) (σ)
def J_X10_refuseMove_83 (b0 fu : Nat)  (x0 : Nat) (x2 : Int32) (x3 : Int32) (σ : tM) : Option ((Int32) × tM) := if (0) ≤ (x3) then J_X10_refuseMove_103 b0 fu    (σ) else ckO b0 (σ) (x0) 10 (osm (tA (σ) (x0) 2) (fun a15 => ckO b0 (σ) (a15) 8 (cll (m_X8_hasPlaceForEntry b0 fu (a15) (x2) (σ)) (fun v19 ρ20 => if (v19) = (0) then J_X10_refuseMove_104 b0 fu   ((-6)) (ρ20) else J_X10_refuseMove_103 b0 fu    (ρ20)))))
def J_X10_refuseMove_46 (b0 fu : Nat)  (x0 : Nat) (x2 : Int32) (x3 : Int32) (σ : tM) : Option ((Int32) × tM) := if (x3) < (0) then J_X10_refuseMove_83 b0 fu   (x0) (x2) (x3) (σ) else ckO b0 (σ) (x0) 10 (osm (tA (σ) (x0) 2) (fun a47 => ckO b0 (σ) (a47) 8 (cll (m_X8_countEntries b0 fu (a47) (x3) (σ)) (fun v51 ρ52 => if (v51) = (0) then J_X10_refuseMove_83 b0 fu   (x0) (x2) (x3) (ρ52) else some ((-5), ρ52)))))
def m_X10_refuseMove (b0 fu : Nat) (a0 : Nat) (p0 : Int32) (p1 : Int32) (p2 : Int32) (σ : tM) : Option ((Int32) × tM) := grw σ (ckO b0 (σ) (a0) 10 (osm (tA (σ) (a0) 2) (fun a3 => ckO b0 (σ) (a3) 8 (cll (m_X8_kind b0 fu (a3) (p0) (σ)) (fun v7 ρ8 => if (v7) = (2) then ckO b0 (ρ8) (a0) 10 (osm (tA (ρ8) (a0) 2) (fun a35 => ckO b0 (ρ8) (a35) 8 (cll (m_X8_isWithin b0 fu (a35) (p1) (p0) (ρ8)) (fun v39 ρ40 => if (v39) = (0) then if (p2) < (0) then J_X10_refuseMove_46 b0 fu   (a0) (p1) (p2) (ρ40) else ckO b0 (ρ40) (a0) 10 (osm (tA (ρ40) (a0) 2) (fun a57 => ckO b0 (ρ40) (a57) 8 (cll (m_X8_kind b0 fu (a57) (p2) (ρ40)) (fun v61 ρ62 => if (v61) = (2) then J_X10_refuseMove_46 b0 fu   (a0) (p1) (p2) (ρ62) else some ((-3), ρ62))))) else some ((-9), ρ40))))) else if (p2) < (0) then J_X10_refuseMove_83 b0 fu   (a0) (p1) (p2) (ρ8) else ckO b0 (ρ8) (a0) 10 (osm (tA (ρ8) (a0) 2) (fun a25 => ckO b0 (ρ8) (a25) 8 (cll (m_X8_kind b0 fu (a25) (p2) (ρ8)) (fun v29 ρ30 => if (v29) = (2) then some ((-4), ρ30) else J_X10_refuseMove_83 b0 fu   (a0) (p1) (p2) (ρ30))))))))))
set_option maxRecDepth 100000 in
set_option maxHeartbeats 1000000 in
theorem j_X10_refuseMove_104 {p : Program} {l : Launch} {e : Env} {s : State} {m : MethodId} {args : Array Value} {below : List Frame} {meth : Method} {c : Code} {D : va_G} {aC : Nat → ClassId} {b0 fu : Nat} {σ0 τ : tM} {v : Int32}  (C : tCx p l s m args meth c yX10_refuseMove.cls cX10_refuseMove 4 (some .int) D aC b0 σ0) (htab : ∀ x ∈ c.exceptionTable.toList, False) (hin : meth.name = yX10_refuseMove.name)  {s0 : Int32} {σ : tM} (hm : J_X10_refuseMove_104 b0 fu  s0 σ = some (v, τ)) : tX p l e s m args below meth c 4 5 114 D aC b0 σ0 (.inl (some (.int v))) τ 104 [] [.int (s0)] σ := by
  unfold J_X10_refuseMove_104 at hm
  obtain ⟨rfl, rfl⟩ := ret_e hm
  exact zx_iret C rfl rfl rfl dX10_refuseMove_104
set_option maxRecDepth 100000 in
set_option maxHeartbeats 1000000 in
theorem j_X10_refuseMove_103 {p : Program} {l : Launch} {e : Env} {s : State} {m : MethodId} {args : Array Value} {below : List Frame} {meth : Method} {c : Code} {D : va_G} {aC : Nat → ClassId} {b0 fu : Nat} {σ0 τ : tM} {v : Int32}  (C : tCx p l s m args meth c yX10_refuseMove.cls cX10_refuseMove 4 (some .int) D aC b0 σ0) (htab : ∀ x ∈ c.exceptionTable.toList, False) (hin : meth.name = yX10_refuseMove.name)   {σ : tM} (hm : J_X10_refuseMove_103 b0 fu   σ = some (v, τ)) : tX p l e s m args below meth c 4 5 114 D aC b0 σ0 (.inl (some (.int v))) τ 103 [] [] σ := by
  unfold J_X10_refuseMove_103 at hm
  refine zx_iconst (v := 0) C dX10_refuseMove_103 (by decide) ?_
  exact zx_lv [] [] rfl (j_X10_refuseMove_104 C htab hin    hm)
set_option maxRecDepth 100000 in
set_option maxHeartbeats 1000000 in
theorem j_X10_refuseMove_83 {p : Program} {l : Launch} {e : Env} {s : State} {m : MethodId} {args : Array Value} {below : List Frame} {meth : Method} {c : Code} {D : va_G} {aC : Nat → ClassId} {b0 fu : Nat} {σ0 τ : tM} {v : Int32}  (C : tCx p l s m args meth c yX10_refuseMove.cls cX10_refuseMove 4 (some .int) D aC b0 σ0) (htab : ∀ x ∈ c.exceptionTable.toList, False) (hin : meth.name = yX10_refuseMove.name)  {x0 : Nat} {x2 : Int32} {x3 : Int32} {σ : tM} (hm : J_X10_refuseMove_83 b0 fu  x0 x2 x3 σ = some (v, τ)) : tX p l e s m args below meth c 4 5 114 D aC b0 σ0 (.inl (some (.int v))) τ 83 [(0, .ref (x0)), (2, .int (x2)), (3, .int (x3))] [] σ := by
  unfold J_X10_refuseMove_83 at hm
  refine zx_iload_n C dX10_refuseMove_83 2 rfl ?_
  refine zx_if_ge C 103 dX10_refuseMove_84 (by decide) (fun c12 => ?_) (fun c12 => ?_)
  · replace hm := ip_e hm c12
    exact zx_lv [] [] rfl (j_X10_refuseMove_103 C htab hin    hm)
  · replace hm := in_e hm c12
    refine zx_aload_n C dX10_refuseMove_87 0 rfl ?_
    obtain ⟨k13, i14, hm⟩ := ckO_e hm
    obtain ⟨a15, h16, hm⟩ := osm_e hm
    refine zx_get (j := 2) C tC_10 k13 i14 ⟨by decide, Or.inl W_2_215⟩ dX10_refuseMove_88 (.ref a15) (rf_s h16) ?_
    refine zx_iload_n C dX10_refuseMove_91 1 rfl ?_
    obtain ⟨k17, i18, hm⟩ := ckO_e hm
    obtain ⟨v19, ρ20, h21, hm⟩ := cll_e hm
    refine zx_callV (σ := σ) C [.int (x2)] tC_8 k17 i18 Y_X8_hasPlaceForEntry W_4_158 W_4_159 W_4_160 (c_X8_hasPlaceForEntry h21) (by decide) (by decide) rfl (Nat.le_of_ble_eq_true rfl) dX10_refuseMove_92 rfl ?_
    refine zx_if_ne C 103 dX10_refuseMove_95 (by decide) (fun c22 => ?_) (fun c22 => ?_)
    · replace hm := in_e hm c22
      exact zx_lv [] [] rfl (j_X10_refuseMove_103 C htab hin    hm)
    · replace hm := ip_e hm c22
      refine zx_bipush (v := (-6)) C dX10_refuseMove_98 (by decide) ?_
      refine zx_goto C 104 dX10_refuseMove_100 (by decide) ?_
      exact zx_lv [] [] rfl (j_X10_refuseMove_104 C htab hin    hm)
set_option maxRecDepth 100000 in
set_option maxHeartbeats 1000000 in
theorem j_X10_refuseMove_46 {p : Program} {l : Launch} {e : Env} {s : State} {m : MethodId} {args : Array Value} {below : List Frame} {meth : Method} {c : Code} {D : va_G} {aC : Nat → ClassId} {b0 fu : Nat} {σ0 τ : tM} {v : Int32}  (C : tCx p l s m args meth c yX10_refuseMove.cls cX10_refuseMove 4 (some .int) D aC b0 σ0) (htab : ∀ x ∈ c.exceptionTable.toList, False) (hin : meth.name = yX10_refuseMove.name)  {x0 : Nat} {x2 : Int32} {x3 : Int32} {σ : tM} (hm : J_X10_refuseMove_46 b0 fu  x0 x2 x3 σ = some (v, τ)) : tX p l e s m args below meth c 4 5 114 D aC b0 σ0 (.inl (some (.int v))) τ 46 [(0, .ref (x0)), (2, .int (x2)), (3, .int (x3))] [] σ := by
  unfold J_X10_refuseMove_46 at hm
  refine zx_iload_n C dX10_refuseMove_46 2 rfl ?_
  refine zx_if_lt C 83 dX10_refuseMove_47 (by decide) (fun c44 => ?_) (fun c44 => ?_)
  · replace hm := ip_e hm c44
    exact zx_lv [0, 1, 2] [(0, .ref (x0)), (2, .int (x2)), (3, .int (x3))] rfl (j_X10_refuseMove_83 C htab hin    hm)
  · replace hm := in_e hm c44
    refine zx_aload_n C dX10_refuseMove_50 0 rfl ?_
    obtain ⟨k45, i46, hm⟩ := ckO_e hm
    obtain ⟨a47, h48, hm⟩ := osm_e hm
    refine zx_get (j := 2) C tC_10 k45 i46 ⟨by decide, Or.inl W_2_215⟩ dX10_refuseMove_51 (.ref a47) (rf_s h48) ?_
    refine zx_iload_n C dX10_refuseMove_54 2 rfl ?_
    obtain ⟨k49, i50, hm⟩ := ckO_e hm
    obtain ⟨v51, ρ52, h53, hm⟩ := cll_e hm
    refine zx_callV (σ := σ) C [.int (x3)] tC_8 k49 i50 Y_X8_countEntries W_5_95 W_5_96 W_5_97 (c_X8_countEntries h53) (by decide) (by decide) rfl (Nat.le_of_ble_eq_true rfl) dX10_refuseMove_55 rfl ?_
    refine zx_if_eq C 83 dX10_refuseMove_58 (by decide) (fun c54 => ?_) (fun c54 => ?_)
    · replace hm := ip_e hm c54
      exact zx_lv [0, 1, 2] [(0, .ref (x0)), (2, .int (x2)), (3, .int (x3))] rfl (j_X10_refuseMove_83 C htab hin    hm)
    · replace hm := in_e hm c54
      refine zx_bipush (v := (-5)) C dX10_refuseMove_61 (by decide) ?_
      obtain ⟨rfl, rfl⟩ := ret_e hm
      exact zx_iret C rfl rfl rfl dX10_refuseMove_63
set_option maxRecDepth 100000 in
set_option maxHeartbeats 1000000 in
theorem c_X10_refuseMove {l : Launch} {D : va_G} {aC : Nat → ClassId} {b0 fu : Nat} {a0 : Nat} {p0 : Int32} {p1 : Int32} {p2 : Int32} {σ τ : tM} {v : Int32} (hm : m_X10_refuseMove b0 fu a0 p0 p1 p2 σ = some (v, τ)) : tMt l D aC b0 yX10_refuseMove (Cond.code yX10_refuseMove cX10_refuseMove 4 (some .int)) 5 114 [.ref (a0), .int (p0), .int (p1), .int (p2)] σ (.inl (some (.int v))) τ := by
  unfold m_X10_refuseMove at hm
  obtain ⟨hg, hm⟩ := grw_e hm
  refine tMt_of (n := 0) rfl (Nat.le_of_ble_eq_true rfl) hg ?_
  intro p e s m below meth c C htab hin
  refine zx_lv [0, 1, 2, 3] [(0, .ref (a0)), (1, .int (p0)), (2, .int (p1)), (3, .int (p2))] rfl ?_
  refine zx_aload_n C dX10_refuseMove_0 0 rfl ?_
  obtain ⟨k1, i2, hm⟩ := ckO_e hm
  obtain ⟨a3, h4, hm⟩ := osm_e hm
  refine zx_get (j := 2) C tC_10 k1 i2 ⟨by decide, Or.inl W_2_215⟩ dX10_refuseMove_1 (.ref a3) (rf_s h4) ?_
  refine zx_iload_n C dX10_refuseMove_4 1 rfl ?_
  obtain ⟨k5, i6, hm⟩ := ckO_e hm
  obtain ⟨v7, ρ8, h9, hm⟩ := cll_e hm
  refine zx_callV (σ := σ) C [.int (p0)] tC_8 k5 i6 Y_X8_kind W_5_14 W_3_80 W_3_81 (c_X8_kind h9) (by decide) (by decide) rfl (Nat.le_of_ble_eq_true rfl) dX10_refuseMove_5 rfl ?_
  refine zx_iconst (v := 2) C dX10_refuseMove_8 (by decide) ?_
  refine zx_icmp_ne C 64 dX10_refuseMove_9 (by decide) (fun c10 => ?_) (fun c10 => ?_)
  · replace hm := in_e hm c10
    refine zx_iload_n C dX10_refuseMove_64 3 rfl ?_
    refine zx_if_lt C 83 dX10_refuseMove_65 (by decide) (fun c11 => ?_) (fun c11 => ?_)
    · replace hm := ip_e hm c11
      exact zx_lv [0, 2, 3] [(0, .ref (a0)), (2, .int (p1)), (3, .int (p2))] rfl (j_X10_refuseMove_83 C htab hin    hm)
    · replace hm := in_e hm c11
      refine zx_aload_n C dX10_refuseMove_68 0 rfl ?_
      obtain ⟨k23, i24, hm⟩ := ckO_e hm
      obtain ⟨a25, h26, hm⟩ := osm_e hm
      refine zx_get (j := 2) C tC_10 k23 i24 ⟨by decide, Or.inl W_2_215⟩ dX10_refuseMove_69 (.ref a25) (rf_s h26) ?_
      refine zx_iload_n C dX10_refuseMove_72 3 rfl ?_
      obtain ⟨k27, i28, hm⟩ := ckO_e hm
      obtain ⟨v29, ρ30, h31, hm⟩ := cll_e hm
      refine zx_callV (σ := ρ8) C [.int (p2)] tC_8 k27 i28 Y_X8_kind W_5_14 W_3_80 W_3_81 (c_X8_kind h31) (by decide) (by decide) rfl (Nat.le_of_ble_eq_true rfl) dX10_refuseMove_73 rfl ?_
      refine zx_iconst (v := 2) C dX10_refuseMove_76 (by decide) ?_
      refine zx_icmp_ne C 83 dX10_refuseMove_77 (by decide) (fun c32 => ?_) (fun c32 => ?_)
      · replace hm := in_e hm c32
        exact zx_lv [0, 2, 3] [(0, .ref (a0)), (2, .int (p1)), (3, .int (p2))] rfl (j_X10_refuseMove_83 C htab hin    hm)
      · replace hm := ip_e hm c32
        refine zx_bipush (v := (-4)) C dX10_refuseMove_80 (by decide) ?_
        obtain ⟨rfl, rfl⟩ := ret_e hm
        exact zx_iret C rfl rfl rfl dX10_refuseMove_82
  · replace hm := ip_e hm c10
    refine zx_aload_n C dX10_refuseMove_12 0 rfl ?_
    obtain ⟨k33, i34, hm⟩ := ckO_e hm
    obtain ⟨a35, h36, hm⟩ := osm_e hm
    refine zx_get (j := 2) C tC_10 k33 i34 ⟨by decide, Or.inl W_2_215⟩ dX10_refuseMove_13 (.ref a35) (rf_s h36) ?_
    refine zx_iload_n C dX10_refuseMove_16 2 rfl ?_
    refine zx_iload_n C dX10_refuseMove_17 1 rfl ?_
    obtain ⟨k37, i38, hm⟩ := ckO_e hm
    obtain ⟨v39, ρ40, h41, hm⟩ := cll_e hm
    refine zx_callV (σ := ρ8) C [.int (p1), .int (p0)] tC_8 k37 i38 Y_X8_isWithin W_5_110 W_5_111 W_5_112 (c_X8_isWithin h41) (by decide) (by decide) rfl (Nat.le_of_ble_eq_true rfl) dX10_refuseMove_18 rfl ?_
    refine zx_if_eq C 27 dX10_refuseMove_21 (by decide) (fun c42 => ?_) (fun c42 => ?_)
    · replace hm := ip_e hm c42
      refine zx_iload_n C dX10_refuseMove_27 3 rfl ?_
      refine zx_if_lt C 46 dX10_refuseMove_28 (by decide) (fun c43 => ?_) (fun c43 => ?_)
      · replace hm := ip_e hm c43
        exact zx_lv [0, 2, 3] [(0, .ref (a0)), (2, .int (p1)), (3, .int (p2))] rfl (j_X10_refuseMove_46 C htab hin    hm)
      · replace hm := in_e hm c43
        refine zx_aload_n C dX10_refuseMove_31 0 rfl ?_
        obtain ⟨k55, i56, hm⟩ := ckO_e hm
        obtain ⟨a57, h58, hm⟩ := osm_e hm
        refine zx_get (j := 2) C tC_10 k55 i56 ⟨by decide, Or.inl W_2_215⟩ dX10_refuseMove_32 (.ref a57) (rf_s h58) ?_
        refine zx_iload_n C dX10_refuseMove_35 3 rfl ?_
        obtain ⟨k59, i60, hm⟩ := ckO_e hm
        obtain ⟨v61, ρ62, h63, hm⟩ := cll_e hm
        refine zx_callV (σ := ρ40) C [.int (p2)] tC_8 k59 i60 Y_X8_kind W_5_14 W_3_80 W_3_81 (c_X8_kind h63) (by decide) (by decide) rfl (Nat.le_of_ble_eq_true rfl) dX10_refuseMove_36 rfl ?_
        refine zx_iconst (v := 2) C dX10_refuseMove_39 (by decide) ?_
        refine zx_icmp_eq C 46 dX10_refuseMove_40 (by decide) (fun c64 => ?_) (fun c64 => ?_)
        · replace hm := ip_e hm c64
          exact zx_lv [0, 2, 3] [(0, .ref (a0)), (2, .int (p1)), (3, .int (p2))] rfl (j_X10_refuseMove_46 C htab hin    hm)
        · replace hm := in_e hm c64
          refine zx_bipush (v := (-3)) C dX10_refuseMove_43 (by decide) ?_
          obtain ⟨rfl, rfl⟩ := ret_e hm
          exact zx_iret C rfl rfl rfl dX10_refuseMove_45
    · replace hm := in_e hm c42
      refine zx_bipush (v := (-9)) C dX10_refuseMove_24 (by decide) ?_
      obtain ⟨rfl, rfl⟩ := ret_e hm
      exact zx_iret C rfl rfl rfl dX10_refuseMove_26
abbrev cX0_put : ByteArray := prog_2_method_6_code
def yX0_put : MethodName := ⟨"SyncTree$Disk", "put", "(II)V"⟩
theorem Y_X0_put : tY yX0_put cX0_put 4 none 2 := ⟨W_3_231, W_1_2, ⟨by decide +kernel, by decide +kernel⟩, by decide +kernel⟩
theorem dX0_put_0 : decode cX0_put 0 = .ok (.aload_n 0, 1) := by decide +kernel
theorem dX0_put_1 : decode cX0_put 1 = .ok (.invokevirtual 84, 3) := by decide +kernel
theorem dX0_put_4 : decode cX0_put 4 = .ok (.iload_n 1, 1) := by decide +kernel
theorem dX0_put_5 : decode cX0_put 5 = .ok (.ifCond .lt 11, 3) := by decide +kernel
theorem dX0_put_8 : decode cX0_put 8 = .ok (.iload_n 1, 1) := by decide +kernel
theorem dX0_put_9 : decode cX0_put 9 = .ok (.aload_n 0, 1) := by decide +kernel
theorem dX0_put_10 : decode cX0_put 10 = .ok (.getfield 40, 3) := by decide +kernel
theorem dX0_put_13 : decode cX0_put 13 = .ok (.if_icmp .lt 4, 3) := by decide +kernel
theorem dX0_put_16 : decode cX0_put 16 = .ok (.return_, 1) := by decide +kernel
theorem dX0_put_17 : decode cX0_put 17 = .ok (.aload_n 0, 1) := by decide +kernel
theorem dX0_put_18 : decode cX0_put 18 = .ok (.getfield 56, 3) := by decide +kernel
theorem dX0_put_21 : decode cX0_put 21 = .ok (.sipush 256, 3) := by decide +kernel
theorem dX0_put_24 : decode cX0_put 24 = .ok (.if_icmp .lt 7, 3) := by decide +kernel
theorem dX0_put_27 : decode cX0_put 27 = .ok (.aload_n 0, 1) := by decide +kernel
theorem dX0_put_28 : decode cX0_put 28 = .ok (.invokevirtual 87, 3) := by decide +kernel
theorem dX0_put_31 : decode cX0_put 31 = .ok (.aload_n 0, 1) := by decide +kernel
theorem dX0_put_32 : decode cX0_put 32 = .ok (.getfield 53, 3) := by decide +kernel
theorem dX0_put_35 : decode cX0_put 35 = .ok (.aload_n 0, 1) := by decide +kernel
theorem dX0_put_36 : decode cX0_put 36 = .ok (.getfield 56, 3) := by decide +kernel
theorem dX0_put_39 : decode cX0_put 39 = .ok (.iadd, 1) := by decide +kernel
theorem dX0_put_40 : decode cX0_put 40 = .ok (.sipush 256, 3) := by decide +kernel
theorem dX0_put_43 : decode cX0_put 43 = .ok (.irem, 1) := by decide +kernel
theorem dX0_put_44 : decode cX0_put 44 = .ok (.istore_n 3, 1) := by decide +kernel
theorem dX0_put_45 : decode cX0_put 45 = .ok (.aload_n 0, 1) := by decide +kernel
theorem dX0_put_46 : decode cX0_put 46 = .ok (.getfield 27, 3) := by decide +kernel
theorem dX0_put_49 : decode cX0_put 49 = .ok (.iload_n 3, 1) := by decide +kernel
theorem dX0_put_50 : decode cX0_put 50 = .ok (.iload_n 1, 1) := by decide +kernel
theorem dX0_put_51 : decode cX0_put 51 = .ok (.iastore, 1) := by decide +kernel
theorem dX0_put_52 : decode cX0_put 52 = .ok (.aload_n 0, 1) := by decide +kernel
theorem dX0_put_53 : decode cX0_put 53 = .ok (.getfield 30, 3) := by decide +kernel
theorem dX0_put_56 : decode cX0_put 56 = .ok (.iload_n 3, 1) := by decide +kernel
theorem dX0_put_57 : decode cX0_put 57 = .ok (.iload_n 2, 1) := by decide +kernel
theorem dX0_put_58 : decode cX0_put 58 = .ok (.iastore, 1) := by decide +kernel
theorem dX0_put_59 : decode cX0_put 59 = .ok (.aload_n 0, 1) := by decide +kernel
theorem dX0_put_60 : decode cX0_put 60 = .ok (.getfield 36, 3) := by decide +kernel
theorem dX0_put_63 : decode cX0_put 63 = .ok (.iload_n 3, 1) := by decide +kernel
theorem dX0_put_64 : decode cX0_put 64 = .ok (.iconst 0, 1) := by decide +kernel
theorem dX0_put_65 : decode cX0_put 65 = .ok (.bastore, 1) := by decide +kernel
theorem dX0_put_66 : decode cX0_put 66 = .ok (.aload_n 0, 1) := by decide +kernel
theorem dX0_put_67 : decode cX0_put 67 = .ok (.dup, 1) := by decide +kernel
theorem dX0_put_68 : decode cX0_put 68 = .ok (.getfield 56, 3) := by decide +kernel
theorem dX0_put_71 : decode cX0_put 71 = .ok (.iconst 1, 1) := by decide +kernel
theorem dX0_put_72 : decode cX0_put 72 = .ok (.iadd, 1) := by decide +kernel
theorem dX0_put_73 : decode cX0_put 73 = .ok (.putfield 56, 3) := by decide +kernel
theorem dX0_put_76 : decode cX0_put 76 = .ok (.aload_n 0, 1) := by decide +kernel
theorem dX0_put_77 : decode cX0_put 77 = .ok (.getfield 21, 3) := by decide +kernel
theorem dX0_put_80 : decode cX0_put 80 = .ok (.iload_n 1, 1) := by decide +kernel
theorem dX0_put_81 : decode cX0_put 81 = .ok (.dup2, 1) := by decide +kernel
theorem dX0_put_82 : decode cX0_put 82 = .ok (.iaload, 1) := by decide +kernel
theorem dX0_put_83 : decode cX0_put 83 = .ok (.iconst 1, 1) := by decide +kernel
theorem dX0_put_84 : decode cX0_put 84 = .ok (.iadd, 1) := by decide +kernel
theorem dX0_put_85 : decode cX0_put 85 = .ok (.iastore, 1) := by decide +kernel
theorem dX0_put_86 : decode cX0_put 86 = .ok (.return_, 1) := by decide +kernel
def J_X0_put_16 (b0 fu : Nat)   (σ : tM) : Option (((Unit) ⊕ Unit) × tM) := some (.inl (()), σ)
def J_X0_put_31 (b0 fu : Nat)  (x0 : Nat) (x1 : Int32) (x2 : Int32) (σ : tM) : Option (((Unit) ⊕ Unit) × tM) := ckO b0 (σ) (x0) 0 (ltb ((((tI (σ) (x0) 9) + (tI (σ) (x0) 10)) - ((tI (σ) (x0) 9) + (tI (σ) (x0) 10)) / (256) * (256) : Int32)) (fun y13 => osm (tA (σ) (x0) 4) (fun a14 => ckR b0 (σ) (a14) 0 (fun n18 => ckI (y13) (n18) (osm (tA (sI (σ) (a14) ((y13).toNatClampNeg) (x1)) (x0) 5) (fun a20 => ckR b0 (sI (σ) (a14) ((y13).toNatClampNeg) (x1)) (a20) 0 (fun n24 => ckI (y13) (n24) (osm (tA (sI (sI (σ) (a14) ((y13).toNatClampNeg) (x1)) (a20) ((y13).toNatClampNeg) (x2)) (x0) 7) (fun a26 => ckR b0 (sI (sI (σ) (a14) ((y13).toNatClampNeg) (x1)) (a20) ((y13).toNatClampNeg) (x2)) (a26) 2 (fun n30 => ckI (y13) (n30) (ltb (sI (sI (sI (sI (σ) (a14) ((y13).toNatClampNeg) (x1)) (a20) ((y13).toNatClampNeg) (x2)) (a26) ((y13).toNatClampNeg) (vp_nar .boolean ((0 : Int32)))) (x0) 10 ((tI (sI (sI (sI (σ) (a14) ((y13).toNatClampNeg) (x1)) (a20) ((y13).toNatClampNeg) (x2)) (a26) ((y13).toNatClampNeg) (vp_nar .boolean ((0 : Int32)))) (x0) 10) + (1))) (fun ρ32 => osm (tA (ρ32) (x0) 2) (fun a41 => ckR b0 (ρ32) (a41) 0 (fun n45 => ckI (x1) (n45) (ckI (x1) (n45) (some (.inl (()), sI (ρ32) (a41) ((x1).toNatClampNeg) ((tI (ρ32) (a41) ((x1).toNatClampNeg)) + (1)))))))))))))))))))
def m_X0_put (b0 fu : Nat) (a0 : Nat) (p0 : Int32) (p1 : Int32) (σ : tM) : Option (((Unit) ⊕ Unit) × tM) := grw σ (ckO b0 (σ) (a0) 0 (clx (m_X0_act b0 fu (a0) (σ)) (fun v3 ρ4 => if (p0) < (0) then J_X0_put_16 b0 fu    (ρ4) else ckO b0 (ρ4) (a0) 0 (if (p0) < (tI (ρ4) (a0) 8) then if (tI (ρ4) (a0) 10) < (256) then J_X0_put_31 b0 fu   (a0) (p0) (p1) (ρ4) else cll (m_X0_keepOldest b0 fu (a0) (ρ4)) (fun v49 ρ50 => J_X0_put_31 b0 fu   (a0) (p0) (p1) (ρ50)) else J_X0_put_16 b0 fu    (ρ4)))))
set_option maxRecDepth 100000 in
set_option maxHeartbeats 1000000 in
theorem j_X0_put_16 {p : Program} {l : Launch} {e : Env} {s : State} {m : MethodId} {args : Array Value} {below : List Frame} {meth : Method} {c : Code} {D : va_G} {aC : Nat → ClassId} {b0 fu : Nat} {σ0 τ : tM} {v : (Unit) ⊕ Unit}  (C : tCx p l s m args meth c yX0_put.cls cX0_put 4 none D aC b0 σ0) (htab : ∀ x ∈ c.exceptionTable.toList, False) (hin : meth.name = yX0_put.name)   {σ : tM} (hm : J_X0_put_16 b0 fu   σ = some (v, τ)) : tX p l e s m args below meth c 4 7 110 D aC b0 σ0 (rxV "java/lang/IllegalStateException" v) τ 16 [] [] σ := by
  unfold J_X0_put_16 at hm
  obtain ⟨rfl, rfl⟩ := ret_e hm
  exact zx_vret C rfl rfl rfl dX0_put_16
set_option maxRecDepth 100000 in
set_option maxHeartbeats 1000000 in
theorem j_X0_put_31 {p : Program} {l : Launch} {e : Env} {s : State} {m : MethodId} {args : Array Value} {below : List Frame} {meth : Method} {c : Code} {D : va_G} {aC : Nat → ClassId} {b0 fu : Nat} {σ0 τ : tM} {v : (Unit) ⊕ Unit}  (C : tCx p l s m args meth c yX0_put.cls cX0_put 4 none D aC b0 σ0) (htab : ∀ x ∈ c.exceptionTable.toList, False) (hin : meth.name = yX0_put.name)  {x0 : Nat} {x1 : Int32} {x2 : Int32} {σ : tM} (hm : J_X0_put_31 b0 fu  x0 x1 x2 σ = some (v, τ)) : tX p l e s m args below meth c 4 7 110 D aC b0 σ0 (rxV "java/lang/IllegalStateException" v) τ 31 [(0, .ref (x0)), (1, .int (x1)), (2, .int (x2))] [] σ := by
  unfold J_X0_put_31 at hm
  refine zx_aload_n C dX0_put_31 0 rfl ?_
  obtain ⟨k11, i12, hm⟩ := ckO_e hm
  refine zx_get (j := 9) C tC_0 k11 i12 ⟨by decide, Or.inl W_1_45⟩ dX0_put_32 (.int (tI (σ) (x0) 9)) rfl ?_
  refine zx_aload_n C dX0_put_35 0 rfl ?_
  refine zx_get (j := 10) C tC_0 k11 i12 ⟨by decide, Or.inl W_1_46⟩ dX0_put_36 (.int (tI (σ) (x0) 10)) rfl ?_
  refine zx_iadd C dX0_put_39 ?_
  refine zx_sipush (v := 256) C dX0_put_40 (by decide) ?_
  refine zx_irem C dX0_put_43 (by decide) ?_
  refine zx_topi (fun y13 hy13 => ?_)
  replace hm := ltb_e hm hy13
  refine zx_istore_n C [(3, .int (y13)), (0, .ref (x0)), (1, .int (x1)), (2, .int (x2))] dX0_put_44 rfl (by decide) rfl ?_
  refine zx_aload_n C dX0_put_45 1 rfl ?_
  obtain ⟨a14, h15, hm⟩ := osm_e hm
  refine zx_get (j := 4) C tC_0 k11 i12 ⟨by decide, Or.inl W_1_40⟩ dX0_put_46 (.ref a14) (rf_s h15) ?_
  refine zx_iload_n C dX0_put_49 0 rfl ?_
  refine zx_iload_n C dX0_put_50 2 rfl ?_
  obtain ⟨n18, k16, i17, hm⟩ := ckR_e hm
  obtain ⟨h19, hm⟩ := ckI_e hm
  refine zx_iast C k16 i17 h19 dX0_put_51 ?_
  refine zx_aload_n C dX0_put_52 1 rfl ?_
  obtain ⟨a20, h21, hm⟩ := osm_e hm
  refine zx_get (j := 5) C tC_0 k11 i12 ⟨by decide, Or.inl W_1_41⟩ dX0_put_53 (.ref a20) (rf_s h21) ?_
  refine zx_iload_n C dX0_put_56 0 rfl ?_
  refine zx_iload_n C dX0_put_57 3 rfl ?_
  obtain ⟨n24, k22, i23, hm⟩ := ckR_e hm
  obtain ⟨h25, hm⟩ := ckI_e hm
  refine zx_iast C k22 i23 h25 dX0_put_58 ?_
  refine zx_aload_n C dX0_put_59 1 rfl ?_
  obtain ⟨a26, h27, hm⟩ := osm_e hm
  refine zx_get (j := 7) C tC_0 k11 i12 ⟨by decide, Or.inl W_1_43⟩ dX0_put_60 (.ref a26) (rf_s h27) ?_
  refine zx_iload_n C dX0_put_63 0 rfl ?_
  refine zx_iconst (v := 0) C dX0_put_64 (by decide) ?_
  obtain ⟨n30, k28, i29, hm⟩ := ckR_e hm
  obtain ⟨h31, hm⟩ := ckI_e hm
  refine zx_zast C k28 i29 h31 dX0_put_65 ?_
  refine zx_aload_n C dX0_put_66 1 rfl ?_
  refine zx_dup C dX0_put_67 rfl ?_
  refine zx_get (j := 10) C tC_0 k11 i12 ⟨by decide, Or.inl W_1_46⟩ dX0_put_68 (.int (tI (sI (sI (sI (σ) (a14) ((y13).toNatClampNeg) (x1)) (a20) ((y13).toNatClampNeg) (x2)) (a26) ((y13).toNatClampNeg) (vp_nar .boolean ((0 : Int32)))) (x0) 10)) rfl ?_
  refine zx_iconst (v := 1) C dX0_put_71 (by decide) ?_
  refine zx_iadd C dX0_put_72 ?_
  refine zx_put (j := 10) (ρ := sI (sI (sI (sI (σ) (a14) ((y13).toNatClampNeg) (x1)) (a20) ((y13).toNatClampNeg) (x2)) (a26) ((y13).toNatClampNeg) (vp_nar .boolean ((0 : Int32)))) (x0) 10 ((tI (sI (sI (sI (σ) (a14) ((y13).toNatClampNeg) (x1)) (a20) ((y13).toNatClampNeg) (x2)) (a26) ((y13).toNatClampNeg) (vp_nar .boolean ((0 : Int32)))) (x0) 10) + (1))) C tC_0 k11 i12 ⟨by decide, Or.inl W_1_46⟩ rfl rfl rfl (sI_ok (fun _ => rfl)) dX0_put_73 ?_
  refine zx_mem (fun ρ32 hρ32 => ?_)
  replace hm := ltb_e hm hρ32
  have k33 : tk ρ32 (x0) = .inl 0 := by rw [hρ32]; exact k11
  have i34 : tIn b0 ρ32 (x0) := by rw [hρ32]; exact i12
  have k35 : tk ρ32 (a14) = .inr (0, n18) := by rw [hρ32]; exact k16
  have i36 : tIn b0 ρ32 (a14) := by rw [hρ32]; exact i17
  have k37 : tk ρ32 (a20) = .inr (0, n24) := by rw [hρ32]; exact k22
  have i38 : tIn b0 ρ32 (a20) := by rw [hρ32]; exact i23
  have k39 : tk ρ32 (a26) = .inr (2, n30) := by rw [hρ32]; exact k28
  have i40 : tIn b0 ρ32 (a26) := by rw [hρ32]; exact i29
  refine zx_aload_n C dX0_put_76 1 rfl ?_
  obtain ⟨a41, h42, hm⟩ := osm_e hm
  refine zx_get (j := 2) C tC_0 k33 i34 ⟨by decide, Or.inl W_1_38⟩ dX0_put_77 (.ref a41) (rf_s h42) ?_
  refine zx_iload_n C dX0_put_80 2 rfl ?_
  refine zx_dup2_11 C dX0_put_81 rfl rfl ?_
  obtain ⟨n45, k43, i44, hm⟩ := ckR_e hm
  obtain ⟨h46, hm⟩ := ckI_e hm
  refine zx_iald C k43 i44 h46 dX0_put_82 ?_
  refine zx_iconst (v := 1) C dX0_put_83 (by decide) ?_
  refine zx_iadd C dX0_put_84 ?_
  obtain ⟨h47, hm⟩ := ckI_e hm
  refine zx_iast C k43 i44 h47 dX0_put_85 ?_
  obtain ⟨rfl, rfl⟩ := ret_e hm
  exact zx_vret C rfl rfl rfl dX0_put_86
set_option maxRecDepth 100000 in
set_option maxHeartbeats 1000000 in
theorem c_X0_put {l : Launch} {D : va_G} {aC : Nat → ClassId} {b0 fu : Nat} {a0 : Nat} {p0 : Int32} {p1 : Int32} {σ τ : tM} {v : (Unit) ⊕ Unit} (hm : m_X0_put b0 fu a0 p0 p1 σ = some (v, τ)) : tMt l D aC b0 yX0_put (Cond.code yX0_put cX0_put 4 none) 7 110 [.ref (a0), .int (p0), .int (p1)] σ (rxV "java/lang/IllegalStateException" v) τ := by
  unfold m_X0_put at hm
  obtain ⟨hg, hm⟩ := grw_e hm
  refine tMt_of (n := 0) rfl (Nat.le_of_ble_eq_true rfl) hg ?_
  intro p e s m below meth c C htab hin
  refine zx_lv [0, 1, 2] [(0, .ref (a0)), (1, .int (p0)), (2, .int (p1))] rfl ?_
  refine zx_aload_n C dX0_put_0 0 rfl ?_
  obtain ⟨k1, i2, hm⟩ := ckO_e hm
  rcases clx_e hm with ⟨v3, ρ4, h5, hm⟩ | ⟨ρ4, h5, hm⟩
  · refine zx_callV (σ := σ) C [] tC_0 k1 i2 Y_X0_act W_3_199 W_3_201 Wp_12 (c_X0_act h5) (by decide) (by decide) rfl (Nat.le_of_ble_eq_true rfl) dX0_put_1 rfl ?_
    refine zx_iload_n C dX0_put_4 1 rfl ?_
    refine zx_if_lt C 16 dX0_put_5 (by decide) (fun c6 => ?_) (fun c6 => ?_)
    · replace hm := ip_e hm c6
      exact zx_lv [] [] rfl (j_X0_put_16 C htab hin    hm)
    · replace hm := in_e hm c6
      refine zx_iload_n C dX0_put_8 1 rfl ?_
      refine zx_aload_n C dX0_put_9 0 rfl ?_
      obtain ⟨k7, i8, hm⟩ := ckO_e hm
      refine zx_get (j := 8) C tC_0 k7 i8 ⟨by decide, Or.inl W_1_44⟩ dX0_put_10 (.int (tI (ρ4) (a0) 8)) rfl ?_
      refine zx_icmp_lt C 17 dX0_put_13 (by decide) (fun c9 => ?_) (fun c9 => ?_)
      · replace hm := ip_e hm c9
        refine zx_aload_n C dX0_put_17 0 rfl ?_
        refine zx_get (j := 10) C tC_0 k7 i8 ⟨by decide, Or.inl W_1_46⟩ dX0_put_18 (.int (tI (ρ4) (a0) 10)) rfl ?_
        refine zx_sipush (v := 256) C dX0_put_21 (by decide) ?_
        refine zx_icmp_lt C 31 dX0_put_24 (by decide) (fun c10 => ?_) (fun c10 => ?_)
        · replace hm := ip_e hm c10
          exact zx_lv [0, 1, 2] [(0, .ref (a0)), (1, .int (p0)), (2, .int (p1))] rfl (j_X0_put_31 C htab hin    hm)
        · replace hm := in_e hm c10
          refine zx_aload_n C dX0_put_27 0 rfl ?_
          obtain ⟨v49, ρ50, h51, hm⟩ := cll_e hm
          refine zx_callV (σ := ρ4) C [] tC_0 k7 i8 Y_X0_keepOldest W_3_208 W_3_210 Wp_13 (c_X0_keepOldest h51) (by decide) (by decide) rfl (Nat.le_of_ble_eq_true rfl) dX0_put_28 rfl ?_
          exact zx_lv [0, 1, 2] [(0, .ref (a0)), (1, .int (p0)), (2, .int (p1))] rfl (j_X0_put_31 C htab hin    hm)
      · replace hm := in_e hm c9
        exact zx_lv [] [] rfl (j_X0_put_16 C htab hin    hm)
  · cases hm
    exact zx_outV (σ := σ) C htab [] tC_0 k1 i2 Y_X0_act W_3_199 W_3_201 Wp_12 (c_X0_act h5) rfl (by decide) (by decide) rfl (Nat.le_of_ble_eq_true rfl) dX0_put_1 rfl
abbrev cX0_flushCache : ByteArray := prog_2_method_8_code
def yX0_flushCache : MethodName := ⟨"SyncTree$Disk", "flushCache", "()V"⟩
theorem Y_X0_flushCache : tY yX0_flushCache cX0_flushCache 2 none 0 := ⟨W_3_198, W_1_2, ⟨by decide +kernel, by decide +kernel⟩, by decide +kernel⟩
theorem dX0_flushCache_0 : decode cX0_flushCache 0 = .ok (.aload_n 0, 1) := by decide +kernel
theorem dX0_flushCache_1 : decode cX0_flushCache 1 = .ok (.invokevirtual 84, 3) := by decide +kernel
theorem dX0_flushCache_4 : decode cX0_flushCache 4 = .ok (.aload_n 0, 1) := by decide +kernel
theorem dX0_flushCache_5 : decode cX0_flushCache 5 = .ok (.getfield 56, 3) := by decide +kernel
theorem dX0_flushCache_8 : decode cX0_flushCache 8 = .ok (.istore_n 1, 1) := by decide +kernel
theorem dX0_flushCache_9 : decode cX0_flushCache 9 = .ok (.iload_n 1, 1) := by decide +kernel
theorem dX0_flushCache_10 : decode cX0_flushCache 10 = .ok (.ifCond .le 13, 3) := by decide +kernel
theorem dX0_flushCache_13 : decode cX0_flushCache 13 = .ok (.aload_n 0, 1) := by decide +kernel
theorem dX0_flushCache_14 : decode cX0_flushCache 14 = .ok (.invokevirtual 87, 3) := by decide +kernel
theorem dX0_flushCache_17 : decode cX0_flushCache 17 = .ok (.iinc 1 (-1), 3) := by decide +kernel
theorem dX0_flushCache_20 : decode cX0_flushCache 20 = .ok (.goto (-11), 3) := by decide +kernel
theorem dX0_flushCache_23 : decode cX0_flushCache 23 = .ok (.aload_n 0, 1) := by decide +kernel
theorem dX0_flushCache_24 : decode cX0_flushCache 24 = .ok (.dup, 1) := by decide +kernel
theorem dX0_flushCache_25 : decode cX0_flushCache 25 = .ok (.getfield 62, 3) := by decide +kernel
theorem dX0_flushCache_28 : decode cX0_flushCache 28 = .ok (.iconst 1, 1) := by decide +kernel
theorem dX0_flushCache_29 : decode cX0_flushCache 29 = .ok (.iadd, 1) := by decide +kernel
theorem dX0_flushCache_30 : decode cX0_flushCache 30 = .ok (.putfield 62, 3) := by decide +kernel
theorem dX0_flushCache_33 : decode cX0_flushCache 33 = .ok (.return_, 1) := by decide +kernel
def L_X0_flushCache_9 (b0 fu : Nat)  : Nat → Nat → Int32 → tM → Option (((Unit) ⊕ Unit) × tM)
  | 0, _, _, _ => none
  | n + 1, x0, x1, σ => ltb (L_X0_flushCache_9 b0 fu  n) (fun rc9 => if (x1) ≤ (0) then ckO b0 (σ) (x0) 0 (some (.inl (()), sI (σ) (x0) 12 ((tI (σ) (x0) 12) + (1)))) else ckO b0 (σ) (x0) 0 (cll (m_X0_keepOldest b0 fu (x0) (σ)) (fun v14 ρ15 => ltb ((x1) + Int32.ofInt (-1)) (fun y17 => rc9 (x0) (y17) (ρ15)))))
def m_X0_flushCache (b0 fu : Nat) (a0 : Nat) (σ : tM) : Option (((Unit) ⊕ Unit) × tM) := grw σ (ckO b0 (σ) (a0) 0 (clx (m_X0_act b0 fu (a0) (σ)) (fun v3 ρ4 => ckO b0 (ρ4) (a0) 0 (ltb ((tI (ρ4) (a0) 10 : Int32)) (fun y8 => L_X0_flushCache_9 b0 fu  (fu) (a0) (y8) (ρ4))))))
set_option maxRecDepth 100000 in
set_option maxHeartbeats 1000000 in
theorem l_X0_flushCache_9 {p : Program} {l : Launch} {e : Env} {s : State} {m : MethodId} {args : Array Value} {below : List Frame} {meth : Method} {c : Code} {D : va_G} {aC : Nat → ClassId} {b0 fu : Nat} {σ0 τ : tM} {v : (Unit) ⊕ Unit}  (C : tCx p l s m args meth c yX0_flushCache.cls cX0_flushCache 2 none D aC b0 σ0) (htab : ∀ x ∈ c.exceptionTable.toList, False) (hin : meth.name = yX0_flushCache.name)  : ∀ (n : Nat) (x0 : Nat) (x1 : Int32) (σ : tM), L_X0_flushCache_9 b0 fu  n x0 x1 σ = some (v, τ) → tX p l e s m args below meth c 2 7 110 D aC b0 σ0 (rxV "java/lang/IllegalStateException" v) τ 9 [(0, .ref (x0)), (1, .int (x1))] [] σ := by
  intro n
  induction n with
  | zero => intro x0 x1 σ hm; unfold L_X0_flushCache_9 at hm; cases hm
  | succ n ih =>
    intro x0 x1 σ hm
    unfold L_X0_flushCache_9 at hm
    obtain ⟨rc9, hrc⟩ : ∃ z, z = L_X0_flushCache_9 b0 fu  n := ⟨_, rfl⟩
    replace hm := ltb_e hm hrc
    rw [← hrc] at ih
    have hrc9 := ih
    clear ih hrc
    refine zx_iload_n C dX0_flushCache_9 1 rfl ?_
    refine zx_if_le C 23 dX0_flushCache_10 (by decide) (fun c9 => ?_) (fun c9 => ?_)
    · replace hm := ip_e hm c9
      refine zx_aload_n C dX0_flushCache_23 0 rfl ?_
      refine zx_dup C dX0_flushCache_24 rfl ?_
      obtain ⟨k10, i11, hm⟩ := ckO_e hm
      refine zx_get (j := 12) C tC_0 k10 i11 ⟨by decide, Or.inl W_1_49⟩ dX0_flushCache_25 (.int (tI (σ) (x0) 12)) rfl ?_
      refine zx_iconst (v := 1) C dX0_flushCache_28 (by decide) ?_
      refine zx_iadd C dX0_flushCache_29 ?_
      refine zx_put (j := 12) (ρ := sI (σ) (x0) 12 ((tI (σ) (x0) 12) + (1))) C tC_0 k10 i11 ⟨by decide, Or.inl W_1_49⟩ rfl rfl rfl (sI_ok (fun _ => rfl)) dX0_flushCache_30 ?_
      obtain ⟨rfl, rfl⟩ := ret_e hm
      exact zx_vret C rfl rfl rfl dX0_flushCache_33
    · replace hm := in_e hm c9
      refine zx_aload_n C dX0_flushCache_13 0 rfl ?_
      obtain ⟨k12, i13, hm⟩ := ckO_e hm
      obtain ⟨v14, ρ15, h16, hm⟩ := cll_e hm
      refine zx_callV (σ := σ) C [] tC_0 k12 i13 Y_X0_keepOldest W_3_208 W_3_210 Wp_13 (c_X0_keepOldest h16) (by decide) (by decide) rfl (Nat.le_of_ble_eq_true rfl) dX0_flushCache_14 rfl ?_
      obtain ⟨y17, hy17⟩ : ∃ z : Int32, z = (x1) + Int32.ofInt (-1) := ⟨_, rfl⟩
      replace hm := ltb_e hm hy17
      refine zx_iinc C [(1, .int (y17)), (0, .ref (x0))] dX0_flushCache_17 1 rfl hy17.symm (by decide) rfl ?_
      refine zx_goto C 9 dX0_flushCache_20 (by decide) ?_
      exact zx_lv [1, 0] [(0, .ref (x0)), (1, .int (y17))] rfl (hrc9 _ _ _ hm)
set_option maxRecDepth 100000 in
set_option maxHeartbeats 1000000 in
theorem c_X0_flushCache {l : Launch} {D : va_G} {aC : Nat → ClassId} {b0 fu : Nat} {a0 : Nat} {σ τ : tM} {v : (Unit) ⊕ Unit} (hm : m_X0_flushCache b0 fu a0 σ = some (v, τ)) : tMt l D aC b0 yX0_flushCache (Cond.code yX0_flushCache cX0_flushCache 2 none) 7 110 [.ref (a0)] σ (rxV "java/lang/IllegalStateException" v) τ := by
  unfold m_X0_flushCache at hm
  obtain ⟨hg, hm⟩ := grw_e hm
  refine tMt_of (n := 0) rfl (Nat.le_of_ble_eq_true rfl) hg ?_
  intro p e s m below meth c C htab hin
  refine zx_lv [0] [(0, .ref (a0))] rfl ?_
  refine zx_aload_n C dX0_flushCache_0 0 rfl ?_
  obtain ⟨k1, i2, hm⟩ := ckO_e hm
  rcases clx_e hm with ⟨v3, ρ4, h5, hm⟩ | ⟨ρ4, h5, hm⟩
  · refine zx_callV (σ := σ) C [] tC_0 k1 i2 Y_X0_act W_3_199 W_3_201 Wp_12 (c_X0_act h5) (by decide) (by decide) rfl (Nat.le_of_ble_eq_true rfl) dX0_flushCache_1 rfl ?_
    refine zx_aload_n C dX0_flushCache_4 0 rfl ?_
    obtain ⟨k6, i7, hm⟩ := ckO_e hm
    refine zx_get (j := 10) C tC_0 k6 i7 ⟨by decide, Or.inl W_1_46⟩ dX0_flushCache_5 (.int (tI (ρ4) (a0) 10)) rfl ?_
    refine zx_topi (fun y8 hy8 => ?_)
    replace hm := ltb_e hm hy8
    refine zx_istore_n C [(1, .int (y8)), (0, .ref (a0))] dX0_flushCache_8 rfl (by decide) rfl ?_
    exact zx_lv [1, 0] [(0, .ref (a0)), (1, .int (y8))] rfl (l_X0_flushCache_9 C htab hin  _ _ _ _ hm)
  · cases hm
    exact zx_outV (σ := σ) C htab [] tC_0 k1 i2 Y_X0_act W_3_199 W_3_201 Wp_12 (c_X0_act h5) rfl (by decide) (by decide) rfl (Nat.le_of_ble_eq_true rfl) dX0_flushCache_1 rfl
abbrev cX1_restart : ByteArray := prog_3_method_4_code
def yX1_restart : MethodName := ⟨"SyncTree$Journal", "restart", "(I)V"⟩
theorem Y_X1_restart : tY yX1_restart cX1_restart 2 none 1 := ⟨W_2_171, W_1_5, ⟨by decide +kernel, by decide +kernel⟩, by decide +kernel⟩
theorem dX1_restart_0 : decode cX1_restart 0 = .ok (.aload_n 0, 1) := by decide +kernel
theorem dX1_restart_1 : decode cX1_restart 1 = .ok (.iload_n 1, 1) := by decide +kernel
theorem dX1_restart_2 : decode cX1_restart 2 = .ok (.putfield 66, 3) := by decide +kernel
theorem dX1_restart_5 : decode cX1_restart 5 = .ok (.aload_n 0, 1) := by decide +kernel
theorem dX1_restart_6 : decode cX1_restart 6 = .ok (.iload_n 1, 1) := by decide +kernel
theorem dX1_restart_7 : decode cX1_restart 7 = .ok (.putfield 69, 3) := by decide +kernel
theorem dX1_restart_10 : decode cX1_restart 10 = .ok (.aload_n 0, 1) := by decide +kernel
theorem dX1_restart_11 : decode cX1_restart 11 = .ok (.iload_n 1, 1) := by decide +kernel
theorem dX1_restart_12 : decode cX1_restart 12 = .ok (.putfield 72, 3) := by decide +kernel
theorem dX1_restart_15 : decode cX1_restart 15 = .ok (.aload_n 0, 1) := by decide +kernel
theorem dX1_restart_16 : decode cX1_restart 16 = .ok (.iload_n 1, 1) := by decide +kernel
theorem dX1_restart_17 : decode cX1_restart 17 = .ok (.putfield 75, 3) := by decide +kernel
theorem dX1_restart_20 : decode cX1_restart 20 = .ok (.aload_n 0, 1) := by decide +kernel
theorem dX1_restart_21 : decode cX1_restart 21 = .ok (.iload_n 1, 1) := by decide +kernel
theorem dX1_restart_22 : decode cX1_restart 22 = .ok (.putfield 78, 3) := by decide +kernel
theorem dX1_restart_25 : decode cX1_restart 25 = .ok (.aload_n 0, 1) := by decide +kernel
theorem dX1_restart_26 : decode cX1_restart 26 = .ok (.iconst 0, 1) := by decide +kernel
theorem dX1_restart_27 : decode cX1_restart 27 = .ok (.putfield 81, 3) := by decide +kernel
theorem dX1_restart_30 : decode cX1_restart 30 = .ok (.aload_n 0, 1) := by decide +kernel
theorem dX1_restart_31 : decode cX1_restart 31 = .ok (.aload_n 0, 1) := by decide +kernel
theorem dX1_restart_32 : decode cX1_restart 32 = .ok (.getfield 49, 3) := by decide +kernel
theorem dX1_restart_35 : decode cX1_restart 35 = .ok (.putfield 84, 3) := by decide +kernel
theorem dX1_restart_38 : decode cX1_restart 38 = .ok (.aload_n 0, 1) := by decide +kernel
theorem dX1_restart_39 : decode cX1_restart 39 = .ok (.getfield 25, 3) := by decide +kernel
theorem dX1_restart_42 : decode cX1_restart 42 = .ok (.iload_n 1, 1) := by decide +kernel
theorem dX1_restart_43 : decode cX1_restart 43 = .ok (.iconst 1, 1) := by decide +kernel
theorem dX1_restart_44 : decode cX1_restart 44 = .ok (.iadd, 1) := by decide +kernel
theorem dX1_restart_45 : decode cX1_restart 45 = .ok (.invokevirtual 87, 3) := by decide +kernel
theorem dX1_restart_48 : decode cX1_restart 48 = .ok (.aload_n 0, 1) := by decide +kernel
theorem dX1_restart_49 : decode cX1_restart 49 = .ok (.getfield 29, 3) := by decide +kernel
theorem dX1_restart_52 : decode cX1_restart 52 = .ok (.invokevirtual 90, 3) := by decide +kernel
theorem dX1_restart_55 : decode cX1_restart 55 = .ok (.return_, 1) := by decide +kernel
def m_X1_restart (b0 fu : Nat) (a0 : Nat) (p0 : Int32) (σ : tM) : Option ((Unit) × tM) := grw σ (ckO b0 (σ) (a0) 1 (osm (tA (sI (sI (sI (sI (sI (sI (sI (σ) (a0) 12 (p0)) (a0) 13 (p0)) (a0) 14 (p0)) (a0) 15 (p0)) (a0) 16 (p0)) (a0) 9 (0)) (a0) 10 (tI (sI (sI (sI (sI (sI (sI (σ) (a0) 12 (p0)) (a0) 13 (p0)) (a0) 14 (p0)) (a0) 15 (p0)) (a0) 16 (p0)) (a0) 9 (0)) (a0) 11)) (a0) 1) (fun a3 => ckO b0 (sI (sI (sI (sI (sI (sI (sI (σ) (a0) 12 (p0)) (a0) 13 (p0)) (a0) 14 (p0)) (a0) 15 (p0)) (a0) 16 (p0)) (a0) 9 (0)) (a0) 10 (tI (sI (sI (sI (sI (sI (sI (σ) (a0) 12 (p0)) (a0) 13 (p0)) (a0) 14 (p0)) (a0) 15 (p0)) (a0) 16 (p0)) (a0) 9 (0)) (a0) 11)) (a3) 5 (cll (m_X5_emptyGroup b0 fu (a3) ((p0) + (1)) (sI (sI (sI (sI (sI (sI (sI (σ) (a0) 12 (p0)) (a0) 13 (p0)) (a0) 14 (p0)) (a0) 15 (p0)) (a0) 16 (p0)) (a0) 9 (0)) (a0) 10 (tI (sI (sI (sI (sI (sI (sI (σ) (a0) 12 (p0)) (a0) 13 (p0)) (a0) 14 (p0)) (a0) 15 (p0)) (a0) 16 (p0)) (a0) 9 (0)) (a0) 11))) (fun v7 ρ8 => ckO b0 (ρ8) (a0) 1 (osm (tA (ρ8) (a0) 2) (fun a12 => ckO b0 (ρ8) (a12) 8 (cll (m_X8_forgetChanges b0 fu (a12) (ρ8)) (fun v16 ρ17 => some ((), ρ17))))))))))
set_option maxRecDepth 100000 in
set_option maxHeartbeats 1000000 in
theorem c_X1_restart {l : Launch} {D : va_G} {aC : Nat → ClassId} {b0 fu : Nat} {a0 : Nat} {p0 : Int32} {σ τ : tM} {v : Unit} (hm : m_X1_restart b0 fu a0 p0 σ = some (v, τ)) : tMt l D aC b0 yX1_restart (Cond.code yX1_restart cX1_restart 2 none) 2 43 [.ref (a0), .int (p0)] σ (.inl none) τ := by
  unfold m_X1_restart at hm
  obtain ⟨hg, hm⟩ := grw_e hm
  refine tMt_of (n := 0) rfl (Nat.le_of_ble_eq_true rfl) hg ?_
  intro p e s m below meth c C htab hin
  refine zx_lv [0, 1] [(0, .ref (a0)), (1, .int (p0))] rfl ?_
  refine zx_aload_n C dX1_restart_0 0 rfl ?_
  refine zx_iload_n C dX1_restart_1 1 rfl ?_
  obtain ⟨k1, i2, hm⟩ := ckO_e hm
  refine zx_put (j := 12) (ρ := sI (σ) (a0) 12 (p0)) C tC_1 k1 i2 ⟨by decide, Or.inl W_1_192⟩ rfl rfl rfl (sI_ok (fun _ => rfl)) dX1_restart_2 ?_
  refine zx_aload_n C dX1_restart_5 0 rfl ?_
  refine zx_iload_n C dX1_restart_6 1 rfl ?_
  refine zx_put (j := 13) (ρ := sI (sI (σ) (a0) 12 (p0)) (a0) 13 (p0)) C tC_1 k1 i2 ⟨by decide, Or.inl W_1_193⟩ rfl rfl rfl (sI_ok (fun _ => rfl)) dX1_restart_7 ?_
  refine zx_aload_n C dX1_restart_10 0 rfl ?_
  refine zx_iload_n C dX1_restart_11 1 rfl ?_
  refine zx_put (j := 14) (ρ := sI (sI (sI (σ) (a0) 12 (p0)) (a0) 13 (p0)) (a0) 14 (p0)) C tC_1 k1 i2 ⟨by decide, Or.inl W_1_194⟩ rfl rfl rfl (sI_ok (fun _ => rfl)) dX1_restart_12 ?_
  refine zx_aload_n C dX1_restart_15 0 rfl ?_
  refine zx_iload_n C dX1_restart_16 1 rfl ?_
  refine zx_put (j := 15) (ρ := sI (sI (sI (sI (σ) (a0) 12 (p0)) (a0) 13 (p0)) (a0) 14 (p0)) (a0) 15 (p0)) C tC_1 k1 i2 ⟨by decide, Or.inl W_1_195⟩ rfl rfl rfl (sI_ok (fun _ => rfl)) dX1_restart_17 ?_
  refine zx_aload_n C dX1_restart_20 0 rfl ?_
  refine zx_iload_n C dX1_restart_21 1 rfl ?_
  refine zx_put (j := 16) (ρ := sI (sI (sI (sI (sI (σ) (a0) 12 (p0)) (a0) 13 (p0)) (a0) 14 (p0)) (a0) 15 (p0)) (a0) 16 (p0)) C tC_1 k1 i2 ⟨by decide, Or.inl W_1_196⟩ rfl rfl rfl (sI_ok (fun _ => rfl)) dX1_restart_22 ?_
  refine zx_aload_n C dX1_restart_25 0 rfl ?_
  refine zx_iconst (v := 0) C dX1_restart_26 (by decide) ?_
  refine zx_put (j := 9) (ρ := sI (sI (sI (sI (sI (sI (σ) (a0) 12 (p0)) (a0) 13 (p0)) (a0) 14 (p0)) (a0) 15 (p0)) (a0) 16 (p0)) (a0) 9 (0)) C tC_1 k1 i2 ⟨by decide, Or.inl W_1_189⟩ rfl rfl rfl (sI_ok (fun _ => rfl)) dX1_restart_27 ?_
  refine zx_aload_n C dX1_restart_30 0 rfl ?_
  refine zx_aload_n C dX1_restart_31 0 rfl ?_
  refine zx_get (j := 11) C tC_1 k1 i2 ⟨by decide, Or.inl W_1_191⟩ dX1_restart_32 (.int (tI (sI (sI (sI (sI (sI (sI (σ) (a0) 12 (p0)) (a0) 13 (p0)) (a0) 14 (p0)) (a0) 15 (p0)) (a0) 16 (p0)) (a0) 9 (0)) (a0) 11)) rfl ?_
  refine zx_put (j := 10) (ρ := sI (sI (sI (sI (sI (sI (sI (σ) (a0) 12 (p0)) (a0) 13 (p0)) (a0) 14 (p0)) (a0) 15 (p0)) (a0) 16 (p0)) (a0) 9 (0)) (a0) 10 (tI (sI (sI (sI (sI (sI (sI (σ) (a0) 12 (p0)) (a0) 13 (p0)) (a0) 14 (p0)) (a0) 15 (p0)) (a0) 16 (p0)) (a0) 9 (0)) (a0) 11)) C tC_1 k1 i2 ⟨by decide, Or.inl W_1_190⟩ rfl rfl rfl (sI_ok (fun _ => rfl)) dX1_restart_35 ?_
  refine zx_aload_n C dX1_restart_38 0 rfl ?_
  obtain ⟨a3, h4, hm⟩ := osm_e hm
  refine zx_get (j := 1) C tC_1 k1 i2 ⟨by decide, Or.inl W_1_181⟩ dX1_restart_39 (.ref a3) (rf_s h4) ?_
  refine zx_iload_n C dX1_restart_42 1 rfl ?_
  refine zx_iconst (v := 1) C dX1_restart_43 (by decide) ?_
  refine zx_iadd C dX1_restart_44 ?_
  obtain ⟨k5, i6, hm⟩ := ckO_e hm
  obtain ⟨v7, ρ8, h9, hm⟩ := cll_e hm
  refine zx_callV (σ := sI (sI (sI (sI (sI (sI (sI (σ) (a0) 12 (p0)) (a0) 13 (p0)) (a0) 14 (p0)) (a0) 15 (p0)) (a0) 16 (p0)) (a0) 9 (0)) (a0) 10 (tI (sI (sI (sI (sI (sI (sI (σ) (a0) 12 (p0)) (a0) 13 (p0)) (a0) 14 (p0)) (a0) 15 (p0)) (a0) 16 (p0)) (a0) 9 (0)) (a0) 11)) C [.int ((p0) + (1))] tC_5 k5 i6 Y_X5_emptyGroup W_2_172 W_2_124 W_2_125 (c_X5_emptyGroup h9) (by decide) (by decide) rfl (Nat.le_of_ble_eq_true rfl) dX1_restart_45 rfl ?_
  refine zx_aload_n C dX1_restart_48 0 rfl ?_
  obtain ⟨k10, i11, hm⟩ := ckO_e hm
  obtain ⟨a12, h13, hm⟩ := osm_e hm
  refine zx_get (j := 2) C tC_1 k10 i11 ⟨by decide, Or.inl W_1_182⟩ dX1_restart_49 (.ref a12) (rf_s h13) ?_
  obtain ⟨k14, i15, hm⟩ := ckO_e hm
  obtain ⟨v16, ρ17, h18, hm⟩ := cll_e hm
  refine zx_callV (σ := ρ8) C [] tC_8 k14 i15 Y_X8_forgetChanges W_2_173 W_2_174 W_2_175 (c_X8_forgetChanges h18) (by decide) (by decide) rfl (Nat.le_of_ble_eq_true rfl) dX1_restart_52 rfl ?_
  obtain ⟨rfl, rfl⟩ := ret_e hm
  exact zx_vret C rfl rfl rfl dX1_restart_55
abbrev cX1_append : ByteArray := prog_3_method_12_code
def yX1_append : MethodName := ⟨"SyncTree$Journal", "append", "(I)V"⟩
theorem Y_X1_append : tY yX1_append cX1_append 3 none 1 := ⟨W_4_12, W_1_5, ⟨by decide +kernel, by decide +kernel⟩, by decide +kernel⟩
theorem dX1_append_0 : decode cX1_append 0 = .ok (.aload_n 0, 1) := by decide +kernel
theorem dX1_append_1 : decode cX1_append 1 = .ok (.dup, 1) := by decide +kernel
theorem dX1_append_2 : decode cX1_append 2 = .ok (.getfield 66, 3) := by decide +kernel
theorem dX1_append_5 : decode cX1_append 5 = .ok (.iconst 1, 1) := by decide +kernel
theorem dX1_append_6 : decode cX1_append 6 = .ok (.iadd, 1) := by decide +kernel
theorem dX1_append_7 : decode cX1_append 7 = .ok (.putfield 66, 3) := by decide +kernel
theorem dX1_append_10 : decode cX1_append 10 = .ok (.new 133, 3) := by decide +kernel
theorem dX1_append_13 : decode cX1_append 13 = .ok (.dup, 1) := by decide +kernel
theorem dX1_append_14 : decode cX1_append 14 = .ok (.aload_n 0, 1) := by decide +kernel
theorem dX1_append_15 : decode cX1_append 15 = .ok (.getfield 66, 3) := by decide +kernel
theorem dX1_append_18 : decode cX1_append 18 = .ok (.aload_n 0, 1) := by decide +kernel
theorem dX1_append_19 : decode cX1_append 19 = .ok (.getfield 52, 3) := by decide +kernel
theorem dX1_append_22 : decode cX1_append 22 = .ok (.aload_n 0, 1) := by decide +kernel
theorem dX1_append_23 : decode cX1_append 23 = .ok (.getfield 84, 3) := by decide +kernel
theorem dX1_append_26 : decode cX1_append 26 = .ok (.iload_n 1, 1) := by decide +kernel
theorem dX1_append_27 : decode cX1_append 27 = .ok (.aload_n 0, 1) := by decide +kernel
theorem dX1_append_28 : decode cX1_append 28 = .ok (.getfield 25, 3) := by decide +kernel
theorem dX1_append_31 : decode cX1_append 31 = .ok (.getfield 135, 3) := by decide +kernel
theorem dX1_append_34 : decode cX1_append 34 = .ok (.aload_n 0, 1) := by decide +kernel
theorem dX1_append_35 : decode cX1_append 35 = .ok (.getfield 25, 3) := by decide +kernel
theorem dX1_append_38 : decode cX1_append 38 = .ok (.getfield 138, 3) := by decide +kernel
theorem dX1_append_41 : decode cX1_append 41 = .ok (.invokespecial 141, 3) := by decide +kernel
theorem dX1_append_44 : decode cX1_append 44 = .ok (.astore_n 2, 1) := by decide +kernel
theorem dX1_append_45 : decode cX1_append 45 = .ok (.aload_n 0, 1) := by decide +kernel
theorem dX1_append_46 : decode cX1_append 46 = .ok (.aload_n 2, 1) := by decide +kernel
theorem dX1_append_47 : decode cX1_append 47 = .ok (.invokevirtual 144, 3) := by decide +kernel
theorem dX1_append_50 : decode cX1_append 50 = .ok (.aload_n 0, 1) := by decide +kernel
theorem dX1_append_51 : decode cX1_append 51 = .ok (.getfield 148, 3) := by decide +kernel
theorem dX1_append_54 : decode cX1_append 54 = .ok (.ifnonnull 11, 3) := by decide +kernel
theorem dX1_append_57 : decode cX1_append 57 = .ok (.aload_n 0, 1) := by decide +kernel
theorem dX1_append_58 : decode cX1_append 58 = .ok (.aload_n 2, 1) := by decide +kernel
theorem dX1_append_59 : decode cX1_append 59 = .ok (.putfield 152, 3) := by decide +kernel
theorem dX1_append_62 : decode cX1_append 62 = .ok (.goto 11, 3) := by decide +kernel
theorem dX1_append_65 : decode cX1_append 65 = .ok (.aload_n 0, 1) := by decide +kernel
theorem dX1_append_66 : decode cX1_append 66 = .ok (.getfield 148, 3) := by decide +kernel
theorem dX1_append_69 : decode cX1_append 69 = .ok (.aload_n 2, 1) := by decide +kernel
theorem dX1_append_70 : decode cX1_append 70 = .ok (.putfield 155, 3) := by decide +kernel
theorem dX1_append_73 : decode cX1_append 73 = .ok (.aload_n 0, 1) := by decide +kernel
theorem dX1_append_74 : decode cX1_append 74 = .ok (.aload_n 2, 1) := by decide +kernel
theorem dX1_append_75 : decode cX1_append 75 = .ok (.putfield 148, 3) := by decide +kernel
theorem dX1_append_78 : decode cX1_append 78 = .ok (.aload_n 0, 1) := by decide +kernel
theorem dX1_append_79 : decode cX1_append 79 = .ok (.dup, 1) := by decide +kernel
theorem dX1_append_80 : decode cX1_append 80 = .ok (.getfield 81, 3) := by decide +kernel
theorem dX1_append_83 : decode cX1_append 83 = .ok (.iload_n 1, 1) := by decide +kernel
theorem dX1_append_84 : decode cX1_append 84 = .ok (.iadd, 1) := by decide +kernel
theorem dX1_append_85 : decode cX1_append 85 = .ok (.putfield 81, 3) := by decide +kernel
theorem dX1_append_88 : decode cX1_append 88 = .ok (.aload_n 0, 1) := by decide +kernel
theorem dX1_append_89 : decode cX1_append 89 = .ok (.aload_n 0, 1) := by decide +kernel
theorem dX1_append_90 : decode cX1_append 90 = .ok (.aload_n 0, 1) := by decide +kernel
theorem dX1_append_91 : decode cX1_append 91 = .ok (.getfield 84, 3) := by decide +kernel
theorem dX1_append_94 : decode cX1_append 94 = .ok (.iload_n 1, 1) := by decide +kernel
theorem dX1_append_95 : decode cX1_append 95 = .ok (.iadd, 1) := by decide +kernel
theorem dX1_append_96 : decode cX1_append 96 = .ok (.invokevirtual 122, 3) := by decide +kernel
theorem dX1_append_99 : decode cX1_append 99 = .ok (.putfield 84, 3) := by decide +kernel
theorem dX1_append_102 : decode cX1_append 102 = .ok (.aload_n 0, 1) := by decide +kernel
theorem dX1_append_103 : decode cX1_append 103 = .ok (.getfield 25, 3) := by decide +kernel
theorem dX1_append_106 : decode cX1_append 106 = .ok (.aload_n 0, 1) := by decide +kernel
theorem dX1_append_107 : decode cX1_append 107 = .ok (.getfield 66, 3) := by decide +kernel
theorem dX1_append_110 : decode cX1_append 110 = .ok (.iconst 1, 1) := by decide +kernel
theorem dX1_append_111 : decode cX1_append 111 = .ok (.iadd, 1) := by decide +kernel
theorem dX1_append_112 : decode cX1_append 112 = .ok (.invokevirtual 87, 3) := by decide +kernel
theorem dX1_append_115 : decode cX1_append 115 = .ok (.aload_n 0, 1) := by decide +kernel
theorem dX1_append_116 : decode cX1_append 116 = .ok (.getfield 29, 3) := by decide +kernel
theorem dX1_append_119 : decode cX1_append 119 = .ok (.invokevirtual 90, 3) := by decide +kernel
theorem dX1_append_122 : decode cX1_append 122 = .ok (.return_, 1) := by decide +kernel
def J_X1_append_73 (b0 fu : Nat)  (x0 : Nat) (x1 : Int32) (x2 : Option Nat) (σ : tM) : Option ((Unit) × tM) := omt (x2) (fun o32 => ckO b0 (σ) (x0) 1 (cll (m_X1_wrap b0 fu (x0) ((tI (sI (sA (σ) (x0) 6 (some (o32))) (x0) 9 ((tI (sA (σ) (x0) 6 (some (o32))) (x0) 9) + (x1))) (x0) 10) + (x1)) (sI (sA (σ) (x0) 6 (some (o32))) (x0) 9 ((tI (sA (σ) (x0) 6 (some (o32))) (x0) 9) + (x1)))) (fun v36 ρ37 => ckO b0 (ρ37) (x0) 1 (osm (tA (sI (ρ37) (x0) 10 (v36)) (x0) 1) (fun a41 => ckO b0 (sI (ρ37) (x0) 10 (v36)) (a41) 5 (cll (m_X5_emptyGroup b0 fu (a41) ((tI (sI (ρ37) (x0) 10 (v36)) (x0) 12) + (1)) (sI (ρ37) (x0) 10 (v36))) (fun v45 ρ46 => ckO b0 (ρ46) (x0) 1 (osm (tA (ρ46) (x0) 2) (fun a50 => ckO b0 (ρ46) (a50) 8 (cll (m_X8_forgetChanges b0 fu (a50) (ρ46)) (fun v54 ρ55 => some ((), ρ55)))))))))))) (ckO b0 (σ) (x0) 1 (cll (m_X1_wrap b0 fu (x0) ((tI (sI (sA (σ) (x0) 6 (none)) (x0) 9 ((tI (sA (σ) (x0) 6 (none)) (x0) 9) + (x1))) (x0) 10) + (x1)) (sI (sA (σ) (x0) 6 (none)) (x0) 9 ((tI (sA (σ) (x0) 6 (none)) (x0) 9) + (x1)))) (fun v59 ρ60 => ckO b0 (ρ60) (x0) 1 (osm (tA (sI (ρ60) (x0) 10 (v59)) (x0) 1) (fun a64 => ckO b0 (sI (ρ60) (x0) 10 (v59)) (a64) 5 (cll (m_X5_emptyGroup b0 fu (a64) ((tI (sI (ρ60) (x0) 10 (v59)) (x0) 12) + (1)) (sI (ρ60) (x0) 10 (v59))) (fun v68 ρ69 => ckO b0 (ρ69) (x0) 1 (osm (tA (ρ69) (x0) 2) (fun a73 => ckO b0 (ρ69) (a73) 8 (cll (m_X8_forgetChanges b0 fu (a73) (ρ69)) (fun v77 ρ78 => some ((), ρ78))))))))))))
def m_X1_append (b0 fu : Nat) (a0 : Nat) (p0 : Int32) (σ : tM) : Option ((Unit) × tM) := grw σ (ckO b0 (σ) (a0) 1 (ltb (sN (sI (σ) (a0) 12 ((tI (σ) (a0) 12) + (1))) (b0 + tn σ) (.inl 7) 8) (fun ρ3 => ckO b0 (ρ3) (a0) 1 (osm (tA (ρ3) (a0) 1) (fun a8 => ckO b0 (ρ3) (a8) 5 (osm (tA (ρ3) (a0) 1) (fun a12 => ckO b0 (ρ3) (a12) 5 (cll (m_X7_init b0 fu (b0 + tn σ) (tI (ρ3) (a0) 12) (tI (ρ3) (a0) 17) (tI (ρ3) (a0) 10) (p0) (tI (ρ3) (a8) 11) (tI (ρ3) (a12) 12) (ρ3)) (fun v16 ρ17 => ckO b0 (ρ17) (a0) 1 (cll (m_X1_collect b0 fu (a0) (b0 + tn σ) (ρ17)) (fun v21 ρ22 => ckO b0 (ρ22) (a0) 1 (omt (tA (ρ22) (a0) 6) (fun a26 => omt (tA (ρ22) (a0) 6) (fun a28 => ckO b0 (ρ22) (a28) 7 (J_X1_append_73 b0 fu   (a0) (p0) (some (b0 + tn σ)) (sA (ρ22) (a28) 7 (some (b0 + tn σ))))) (none)) (J_X1_append_73 b0 fu   (a0) (p0) (some (b0 + tn σ)) (sA (ρ22) (a0) 5 (some (b0 + tn σ))))))))))))))))
set_option maxRecDepth 100000 in
set_option maxHeartbeats 1000000 in
theorem j_X1_append_73 {p : Program} {l : Launch} {e : Env} {s : State} {m : MethodId} {args : Array Value} {below : List Frame} {meth : Method} {c : Code} {D : va_G} {aC : Nat → ClassId} {b0 fu : Nat} {σ0 τ : tM} {v : Unit}  (C : tCx p l s m args meth c yX1_append.cls cX1_append 3 none D aC b0 σ0) (htab : ∀ x ∈ c.exceptionTable.toList, False) (hin : meth.name = yX1_append.name)  {x0 : Nat} {x1 : Int32} {x2 : Option Nat} {σ : tM} (hm : J_X1_append_73 b0 fu  x0 x1 x2 σ = some (v, τ)) : tX p l e s m args below meth c 3 4 86 D aC b0 σ0 (.inl none) τ 73 [(0, .ref (x0)), (1, .int (x1)), (2, va_rf (x2))] [] σ := by
  unfold J_X1_append_73 at hm
  refine zx_aload_n C dX1_append_73 0 rfl ?_
  rcases omt_e hm with ⟨o32, h33, hm⟩ | ⟨h33, hm⟩
  · refine zx_lv [0, 1, 2] [(0, .ref (x0)), (1, .int (x1)), (2, .ref (o32))] (by rw [h33]; rfl) ?_
    refine zx_aload_n C dX1_append_74 2 rfl ?_
    obtain ⟨k34, i35, hm⟩ := ckO_e hm
    refine zx_put (j := 6) (ρ := sA (σ) (x0) 6 (some (o32))) C tC_1 k34 i35 ⟨by decide, Or.inl W_1_186⟩ rfl rfl rfl (sA_ok (fun _ => rfl)) dX1_append_75 ?_
    refine zx_aload_n C dX1_append_78 0 rfl ?_
    refine zx_dup C dX1_append_79 rfl ?_
    refine zx_get (j := 9) C tC_1 k34 i35 ⟨by decide, Or.inl W_1_189⟩ dX1_append_80 (.int (tI (sA (σ) (x0) 6 (some (o32))) (x0) 9)) rfl ?_
    refine zx_iload_n C dX1_append_83 1 rfl ?_
    refine zx_iadd C dX1_append_84 ?_
    refine zx_put (j := 9) (ρ := sI (sA (σ) (x0) 6 (some (o32))) (x0) 9 ((tI (sA (σ) (x0) 6 (some (o32))) (x0) 9) + (x1))) C tC_1 k34 i35 ⟨by decide, Or.inl W_1_189⟩ rfl rfl rfl (sI_ok (fun _ => rfl)) dX1_append_85 ?_
    refine zx_aload_n C dX1_append_88 0 rfl ?_
    refine zx_aload_n C dX1_append_89 0 rfl ?_
    refine zx_aload_n C dX1_append_90 0 rfl ?_
    refine zx_get (j := 10) C tC_1 k34 i35 ⟨by decide, Or.inl W_1_190⟩ dX1_append_91 (.int (tI (sI (sA (σ) (x0) 6 (some (o32))) (x0) 9 ((tI (sA (σ) (x0) 6 (some (o32))) (x0) 9) + (x1))) (x0) 10)) rfl ?_
    refine zx_iload_n C dX1_append_94 1 rfl ?_
    refine zx_iadd C dX1_append_95 ?_
    obtain ⟨v36, ρ37, h38, hm⟩ := cll_e hm
    refine zx_callV (σ := sI (sA (σ) (x0) 6 (some (o32))) (x0) 9 ((tI (sA (σ) (x0) 6 (some (o32))) (x0) 9) + (x1))) C [.int ((tI (sI (sA (σ) (x0) 6 (some (o32))) (x0) 9 ((tI (sA (σ) (x0) 6 (some (o32))) (x0) 9) + (x1))) (x0) 10) + (x1))] tC_1 k34 i35 Y_X1_wrap W_3_224 W_3_226 Wp_16 (c_X1_wrap h38) (by decide) (by decide) rfl (Nat.le_of_ble_eq_true rfl) dX1_append_96 rfl ?_
    obtain ⟨k39, i40, hm⟩ := ckO_e hm
    refine zx_put (j := 10) (ρ := sI (ρ37) (x0) 10 (v36)) C tC_1 k39 i40 ⟨by decide, Or.inl W_1_190⟩ rfl rfl rfl (sI_ok (fun _ => rfl)) dX1_append_99 ?_
    refine zx_aload_n C dX1_append_102 0 rfl ?_
    obtain ⟨a41, h42, hm⟩ := osm_e hm
    refine zx_get (j := 1) C tC_1 k39 i40 ⟨by decide, Or.inl W_1_181⟩ dX1_append_103 (.ref a41) (rf_s h42) ?_
    refine zx_aload_n C dX1_append_106 0 rfl ?_
    refine zx_get (j := 12) C tC_1 k39 i40 ⟨by decide, Or.inl W_1_192⟩ dX1_append_107 (.int (tI (sI (ρ37) (x0) 10 (v36)) (x0) 12)) rfl ?_
    refine zx_iconst (v := 1) C dX1_append_110 (by decide) ?_
    refine zx_iadd C dX1_append_111 ?_
    obtain ⟨k43, i44, hm⟩ := ckO_e hm
    obtain ⟨v45, ρ46, h47, hm⟩ := cll_e hm
    refine zx_callV (σ := sI (ρ37) (x0) 10 (v36)) C [.int ((tI (sI (ρ37) (x0) 10 (v36)) (x0) 12) + (1))] tC_5 k43 i44 Y_X5_emptyGroup W_2_172 W_2_124 W_2_125 (c_X5_emptyGroup h47) (by decide) (by decide) rfl (Nat.le_of_ble_eq_true rfl) dX1_append_112 rfl ?_
    refine zx_aload_n C dX1_append_115 0 rfl ?_
    obtain ⟨k48, i49, hm⟩ := ckO_e hm
    obtain ⟨a50, h51, hm⟩ := osm_e hm
    refine zx_get (j := 2) C tC_1 k48 i49 ⟨by decide, Or.inl W_1_182⟩ dX1_append_116 (.ref a50) (rf_s h51) ?_
    obtain ⟨k52, i53, hm⟩ := ckO_e hm
    obtain ⟨v54, ρ55, h56, hm⟩ := cll_e hm
    refine zx_callV (σ := ρ46) C [] tC_8 k52 i53 Y_X8_forgetChanges W_2_173 W_2_174 W_2_175 (c_X8_forgetChanges h56) (by decide) (by decide) rfl (Nat.le_of_ble_eq_true rfl) dX1_append_119 rfl ?_
    obtain ⟨rfl, rfl⟩ := ret_e hm
    exact zx_vret C rfl rfl rfl dX1_append_122
  · refine zx_lv [0, 1, 2] [(0, .ref (x0)), (1, .int (x1)), (2, .null)] (by rw [h33]; rfl) ?_
    refine zx_aload_nN C dX1_append_74 2 rfl ?_
    obtain ⟨k57, i58, hm⟩ := ckO_e hm
    refine zx_put (j := 6) (ρ := sA (σ) (x0) 6 (none)) C tC_1 k57 i58 ⟨by decide, Or.inl W_1_186⟩ rfl rfl rfl (sA_ok (fun _ => rfl)) dX1_append_75 ?_
    refine zx_aload_n C dX1_append_78 0 rfl ?_
    refine zx_dup C dX1_append_79 rfl ?_
    refine zx_get (j := 9) C tC_1 k57 i58 ⟨by decide, Or.inl W_1_189⟩ dX1_append_80 (.int (tI (sA (σ) (x0) 6 (none)) (x0) 9)) rfl ?_
    refine zx_iload_n C dX1_append_83 1 rfl ?_
    refine zx_iadd C dX1_append_84 ?_
    refine zx_put (j := 9) (ρ := sI (sA (σ) (x0) 6 (none)) (x0) 9 ((tI (sA (σ) (x0) 6 (none)) (x0) 9) + (x1))) C tC_1 k57 i58 ⟨by decide, Or.inl W_1_189⟩ rfl rfl rfl (sI_ok (fun _ => rfl)) dX1_append_85 ?_
    refine zx_aload_n C dX1_append_88 0 rfl ?_
    refine zx_aload_n C dX1_append_89 0 rfl ?_
    refine zx_aload_n C dX1_append_90 0 rfl ?_
    refine zx_get (j := 10) C tC_1 k57 i58 ⟨by decide, Or.inl W_1_190⟩ dX1_append_91 (.int (tI (sI (sA (σ) (x0) 6 (none)) (x0) 9 ((tI (sA (σ) (x0) 6 (none)) (x0) 9) + (x1))) (x0) 10)) rfl ?_
    refine zx_iload_n C dX1_append_94 1 rfl ?_
    refine zx_iadd C dX1_append_95 ?_
    obtain ⟨v59, ρ60, h61, hm⟩ := cll_e hm
    refine zx_callV (σ := sI (sA (σ) (x0) 6 (none)) (x0) 9 ((tI (sA (σ) (x0) 6 (none)) (x0) 9) + (x1))) C [.int ((tI (sI (sA (σ) (x0) 6 (none)) (x0) 9 ((tI (sA (σ) (x0) 6 (none)) (x0) 9) + (x1))) (x0) 10) + (x1))] tC_1 k57 i58 Y_X1_wrap W_3_224 W_3_226 Wp_16 (c_X1_wrap h61) (by decide) (by decide) rfl (Nat.le_of_ble_eq_true rfl) dX1_append_96 rfl ?_
    obtain ⟨k62, i63, hm⟩ := ckO_e hm
    refine zx_put (j := 10) (ρ := sI (ρ60) (x0) 10 (v59)) C tC_1 k62 i63 ⟨by decide, Or.inl W_1_190⟩ rfl rfl rfl (sI_ok (fun _ => rfl)) dX1_append_99 ?_
    refine zx_aload_n C dX1_append_102 0 rfl ?_
    obtain ⟨a64, h65, hm⟩ := osm_e hm
    refine zx_get (j := 1) C tC_1 k62 i63 ⟨by decide, Or.inl W_1_181⟩ dX1_append_103 (.ref a64) (rf_s h65) ?_
    refine zx_aload_n C dX1_append_106 0 rfl ?_
    refine zx_get (j := 12) C tC_1 k62 i63 ⟨by decide, Or.inl W_1_192⟩ dX1_append_107 (.int (tI (sI (ρ60) (x0) 10 (v59)) (x0) 12)) rfl ?_
    refine zx_iconst (v := 1) C dX1_append_110 (by decide) ?_
    refine zx_iadd C dX1_append_111 ?_
    obtain ⟨k66, i67, hm⟩ := ckO_e hm
    obtain ⟨v68, ρ69, h70, hm⟩ := cll_e hm
    refine zx_callV (σ := sI (ρ60) (x0) 10 (v59)) C [.int ((tI (sI (ρ60) (x0) 10 (v59)) (x0) 12) + (1))] tC_5 k66 i67 Y_X5_emptyGroup W_2_172 W_2_124 W_2_125 (c_X5_emptyGroup h70) (by decide) (by decide) rfl (Nat.le_of_ble_eq_true rfl) dX1_append_112 rfl ?_
    refine zx_aload_n C dX1_append_115 0 rfl ?_
    obtain ⟨k71, i72, hm⟩ := ckO_e hm
    obtain ⟨a73, h74, hm⟩ := osm_e hm
    refine zx_get (j := 2) C tC_1 k71 i72 ⟨by decide, Or.inl W_1_182⟩ dX1_append_116 (.ref a73) (rf_s h74) ?_
    obtain ⟨k75, i76, hm⟩ := ckO_e hm
    obtain ⟨v77, ρ78, h79, hm⟩ := cll_e hm
    refine zx_callV (σ := ρ69) C [] tC_8 k75 i76 Y_X8_forgetChanges W_2_173 W_2_174 W_2_175 (c_X8_forgetChanges h79) (by decide) (by decide) rfl (Nat.le_of_ble_eq_true rfl) dX1_append_119 rfl ?_
    obtain ⟨rfl, rfl⟩ := ret_e hm
    exact zx_vret C rfl rfl rfl dX1_append_122
set_option maxRecDepth 100000 in
set_option maxHeartbeats 1000000 in
theorem c_X1_append {l : Launch} {D : va_G} {aC : Nat → ClassId} {b0 fu : Nat} {a0 : Nat} {p0 : Int32} {σ τ : tM} {v : Unit} (hm : m_X1_append b0 fu a0 p0 σ = some (v, τ)) : tMt l D aC b0 yX1_append (Cond.code yX1_append cX1_append 3 none) 4 86 [.ref (a0), .int (p0)] σ (.inl none) τ := by
  unfold m_X1_append at hm
  obtain ⟨hg, hm⟩ := grw_e hm
  refine tMt_of (n := 0) rfl (Nat.le_of_ble_eq_true rfl) hg ?_
  intro p e s m below meth c C htab hin
  refine zx_lv [0, 1] [(0, .ref (a0)), (1, .int (p0))] rfl ?_
  refine zx_aload_n C dX1_append_0 0 rfl ?_
  refine zx_dup C dX1_append_1 rfl ?_
  obtain ⟨k1, i2, hm⟩ := ckO_e hm
  refine zx_get (j := 12) C tC_1 k1 i2 ⟨by decide, Or.inl W_1_192⟩ dX1_append_2 (.int (tI (σ) (a0) 12)) rfl ?_
  refine zx_iconst (v := 1) C dX1_append_5 (by decide) ?_
  refine zx_iadd C dX1_append_6 ?_
  refine zx_put (j := 12) (ρ := sI (σ) (a0) 12 ((tI (σ) (a0) 12) + (1))) C tC_1 k1 i2 ⟨by decide, Or.inl W_1_192⟩ rfl rfl rfl (sI_ok (fun _ => rfl)) dX1_append_7 ?_
  refine zx_new C tC_7 W_4_13 W_4_14 W_1_19 dX1_append_10 ?_
  refine zx_mem (fun ρ3 hρ3 => ?_)
  replace hm := ltb_e hm hρ3
  have k4 : tk ρ3 (b0 + tn σ) = .inl 7 := by rw [hρ3]; exact sN_k _ _ _ _
  have i5 : tIn b0 ρ3 (b0 + tn σ) := by rw [hρ3]; exact sN_i _ _ _ _
  refine zx_dup C dX1_append_13 rfl ?_
  refine zx_aload_n C dX1_append_14 0 rfl ?_
  obtain ⟨k6, i7, hm⟩ := ckO_e hm
  refine zx_get (j := 12) C tC_1 k6 i7 ⟨by decide, Or.inl W_1_192⟩ dX1_append_15 (.int (tI (ρ3) (a0) 12)) rfl ?_
  refine zx_aload_n C dX1_append_18 0 rfl ?_
  refine zx_get (j := 17) C tC_1 k6 i7 ⟨by decide, Or.inl W_1_197⟩ dX1_append_19 (.int (tI (ρ3) (a0) 17)) rfl ?_
  refine zx_aload_n C dX1_append_22 0 rfl ?_
  refine zx_get (j := 10) C tC_1 k6 i7 ⟨by decide, Or.inl W_1_190⟩ dX1_append_23 (.int (tI (ρ3) (a0) 10)) rfl ?_
  refine zx_iload_n C dX1_append_26 1 rfl ?_
  refine zx_aload_n C dX1_append_27 0 rfl ?_
  obtain ⟨a8, h9, hm⟩ := osm_e hm
  refine zx_get (j := 1) C tC_1 k6 i7 ⟨by decide, Or.inl W_1_181⟩ dX1_append_28 (.ref a8) (rf_s h9) ?_
  obtain ⟨k10, i11, hm⟩ := ckO_e hm
  refine zx_get (j := 11) C tC_5 k10 i11 ⟨by decide, Or.inr ⟨_, W_1_112⟩⟩ dX1_append_31 (.int (tI (ρ3) (a8) 11)) rfl ?_
  refine zx_aload_n C dX1_append_34 0 rfl ?_
  obtain ⟨a12, h13, hm⟩ := osm_e hm
  refine zx_get (j := 1) C tC_1 k6 i7 ⟨by decide, Or.inl W_1_181⟩ dX1_append_35 (.ref a12) (rf_s h13) ?_
  obtain ⟨k14, i15, hm⟩ := ckO_e hm
  refine zx_get (j := 12) C tC_5 k14 i15 ⟨by decide, Or.inr ⟨_, W_1_114⟩⟩ dX1_append_38 (.int (tI (ρ3) (a12) 12)) rfl ?_
  obtain ⟨v16, ρ17, h18, hm⟩ := cll_e hm
  refine zx_callI (σ := ρ3) C [.int (tI (ρ3) (a0) 12), .int (tI (ρ3) (a0) 17), .int (tI (ρ3) (a0) 10), .int (p0), .int (tI (ρ3) (a8) 11), .int (tI (ρ3) (a12) 12)] Y_X7_init W_4_15 W_4_16 rfl (c_X7_init h18) (by decide) (by decide) rfl (Nat.le_of_ble_eq_true rfl) dX1_append_41 rfl ?_
  refine zx_astore_n C [(2, .ref (b0 + tn σ)), (0, .ref (a0)), (1, .int (p0))] dX1_append_44 rfl (by decide) rfl ?_
  refine zx_aload_n C dX1_append_45 1 rfl ?_
  refine zx_aload_n C dX1_append_46 0 rfl ?_
  obtain ⟨k19, i20, hm⟩ := ckO_e hm
  obtain ⟨v21, ρ22, h23, hm⟩ := cll_e hm
  refine zx_callV (σ := ρ17) C [.ref (b0 + tn σ)] tC_1 k19 i20 Y_X1_collect W_4_53 W_4_55 Wp_19 (c_X1_collect h23) (by decide) (by decide) rfl (Nat.le_of_ble_eq_true rfl) dX1_append_47 rfl ?_
  refine zx_aload_n C dX1_append_50 1 rfl ?_
  obtain ⟨k24, i25, hm⟩ := ckO_e hm
  rcases omt_e hm with ⟨a26, h27, hm⟩ | ⟨h27, hm⟩
  · refine zx_get (j := 6) C tC_1 k24 i25 ⟨by decide, Or.inl W_1_186⟩ dX1_append_51 (.ref a26) (rf_s h27) ?_
    refine zx_ifnonnull C 65 dX1_append_54 (by decide) ?_
    refine zx_aload_n C dX1_append_65 1 rfl ?_
    rcases omt_e hm with ⟨a28, h29, hm⟩ | ⟨h29, hm⟩
    · refine zx_get (j := 6) C tC_1 k24 i25 ⟨by decide, Or.inl W_1_186⟩ dX1_append_66 (.ref a28) (rf_s h29) ?_
      refine zx_aload_n C dX1_append_69 0 rfl ?_
      obtain ⟨k30, i31, hm⟩ := ckO_e hm
      refine zx_put (j := 7) (ρ := sA (ρ22) (a28) 7 (some (b0 + tn σ))) C tC_7 k30 i31 ⟨by decide, Or.inr ⟨_, W_4_35⟩⟩ rfl rfl rfl (sA_ok (fun _ => rfl)) dX1_append_70 ?_
      exact zx_lv [1, 2, 0] [(0, .ref (a0)), (1, .int (p0)), (2, va_rf (some (b0 + tn σ)))] rfl (j_X1_append_73 C htab hin    hm)
    · refine zx_get (j := 6) C tC_1 k24 i25 ⟨by decide, Or.inl W_1_186⟩ dX1_append_66 .null (rf_n h29) ?_
      refine zx_aload_n C dX1_append_69 0 rfl ?_
      cases hm
  · refine zx_get (j := 6) C tC_1 k24 i25 ⟨by decide, Or.inl W_1_186⟩ dX1_append_51 .null (rf_n h27) ?_
    refine zx_ifnonnullN C dX1_append_54 ?_
    refine zx_aload_n C dX1_append_57 1 rfl ?_
    refine zx_aload_n C dX1_append_58 0 rfl ?_
    refine zx_put (j := 5) (ρ := sA (ρ22) (a0) 5 (some (b0 + tn σ))) C tC_1 k24 i25 ⟨by decide, Or.inl W_1_185⟩ rfl rfl rfl (sA_ok (fun _ => rfl)) dX1_append_59 ?_
    refine zx_goto C 73 dX1_append_62 (by decide) ?_
    exact zx_lv [1, 2, 0] [(0, .ref (a0)), (1, .int (p0)), (2, va_rf (some (b0 + tn σ)))] rfl (j_X1_append_73 C htab hin    hm)
abbrev cX1_flush : ByteArray := prog_3_method_14_code
def yX1_flush : MethodName := ⟨"SyncTree$Journal", "flush", "()V"⟩
theorem Y_X1_flush : tY yX1_flush cX1_flush 1 none 0 := ⟨W_3_194, W_1_5, ⟨by decide +kernel, by decide +kernel⟩, by decide +kernel⟩
theorem dX1_flush_0 : decode cX1_flush 0 = .ok (.aload_n 0, 1) := by decide +kernel
theorem dX1_flush_1 : decode cX1_flush 1 = .ok (.getfield 21, 3) := by decide +kernel
theorem dX1_flush_4 : decode cX1_flush 4 = .ok (.invokevirtual 174, 3) := by decide +kernel
theorem dX1_flush_7 : decode cX1_flush 7 = .ok (.aload_n 0, 1) := by decide +kernel
theorem dX1_flush_8 : decode cX1_flush 8 = .ok (.aload_n 0, 1) := by decide +kernel
theorem dX1_flush_9 : decode cX1_flush 9 = .ok (.getfield 66, 3) := by decide +kernel
theorem dX1_flush_12 : decode cX1_flush 12 = .ok (.putfield 69, 3) := by decide +kernel
theorem dX1_flush_15 : decode cX1_flush 15 = .ok (.aload_n 0, 1) := by decide +kernel
theorem dX1_flush_16 : decode cX1_flush 16 = .ok (.getfield 25, 3) := by decide +kernel
theorem dX1_flush_19 : decode cX1_flush 19 = .ok (.aload_n 0, 1) := by decide +kernel
theorem dX1_flush_20 : decode cX1_flush 20 = .ok (.getfield 69, 3) := by decide +kernel
theorem dX1_flush_23 : decode cX1_flush 23 = .ok (.invokevirtual 177, 3) := by decide +kernel
theorem dX1_flush_26 : decode cX1_flush 26 = .ok (.aload_n 0, 1) := by decide +kernel
theorem dX1_flush_27 : decode cX1_flush 27 = .ok (.aload_n 0, 1) := by decide +kernel
theorem dX1_flush_28 : decode cX1_flush 28 = .ok (.getfield 75, 3) := by decide +kernel
theorem dX1_flush_31 : decode cX1_flush 31 = .ok (.putfield 78, 3) := by decide +kernel
theorem dX1_flush_34 : decode cX1_flush 34 = .ok (.aload_n 0, 1) := by decide +kernel
theorem dX1_flush_35 : decode cX1_flush 35 = .ok (.aload_n 0, 1) := by decide +kernel
theorem dX1_flush_36 : decode cX1_flush 36 = .ok (.getfield 78, 3) := by decide +kernel
theorem dX1_flush_39 : decode cX1_flush 39 = .ok (.invokevirtual 180, 3) := by decide +kernel
theorem dX1_flush_42 : decode cX1_flush 42 = .ok (.aload_n 0, 1) := by decide +kernel
theorem dX1_flush_43 : decode cX1_flush 43 = .ok (.getfield 72, 3) := by decide +kernel
theorem dX1_flush_46 : decode cX1_flush 46 = .ok (.aload_n 0, 1) := by decide +kernel
theorem dX1_flush_47 : decode cX1_flush 47 = .ok (.getfield 75, 3) := by decide +kernel
theorem dX1_flush_50 : decode cX1_flush 50 = .ok (.if_icmp .le 23, 3) := by decide +kernel
theorem dX1_flush_53 : decode cX1_flush 53 = .ok (.aload_n 0, 1) := by decide +kernel
theorem dX1_flush_54 : decode cX1_flush 54 = .ok (.aload_n 0, 1) := by decide +kernel
theorem dX1_flush_55 : decode cX1_flush 55 = .ok (.getfield 72, 3) := by decide +kernel
theorem dX1_flush_58 : decode cX1_flush 58 = .ok (.putfield 75, 3) := by decide +kernel
theorem dX1_flush_61 : decode cX1_flush 61 = .ok (.aload_n 0, 1) := by decide +kernel
theorem dX1_flush_62 : decode cX1_flush 62 = .ok (.getfield 21, 3) := by decide +kernel
theorem dX1_flush_65 : decode cX1_flush 65 = .ok (.iconst 0, 1) := by decide +kernel
theorem dX1_flush_66 : decode cX1_flush 66 = .ok (.aload_n 0, 1) := by decide +kernel
theorem dX1_flush_67 : decode cX1_flush 67 = .ok (.getfield 75, 3) := by decide +kernel
theorem dX1_flush_70 : decode cX1_flush 70 = .ok (.invokevirtual 126, 3) := by decide +kernel
theorem dX1_flush_73 : decode cX1_flush 73 = .ok (.return_, 1) := by decide +kernel
def J_X1_flush_73 (b0 fu : Nat)   (σ : tM) : Option (((Unit) ⊕ Unit) × tM) := some (.inl (()), σ)
def m_X1_flush (b0 fu : Nat) (a0 : Nat) (σ : tM) : Option (((Unit) ⊕ Unit) × tM) := grw σ (ckO b0 (σ) (a0) 1 (osm (tA (σ) (a0) 0) (fun a3 => ckO b0 (σ) (a3) 0 (clx (m_X0_flushCache b0 fu (a3) (σ)) (fun v7 ρ8 => ckO b0 (ρ8) (a0) 1 (osm (tA (sI (ρ8) (a0) 13 (tI (ρ8) (a0) 12)) (a0) 1) (fun a12 => ckO b0 (sI (ρ8) (a0) 13 (tI (ρ8) (a0) 12)) (a12) 5 (cll (m_X5_freeRetired b0 fu (a12) (tI (sI (ρ8) (a0) 13 (tI (ρ8) (a0) 12)) (a0) 13) (sI (ρ8) (a0) 13 (tI (ρ8) (a0) 12))) (fun v16 ρ17 => ckO b0 (ρ17) (a0) 1 (cll (m_X1_fold b0 fu (a0) (tI (sI (ρ17) (a0) 16 (tI (ρ17) (a0) 15)) (a0) 16) (sI (ρ17) (a0) 16 (tI (ρ17) (a0) 15))) (fun v21 ρ22 => ckO b0 (ρ22) (a0) 1 (if (tI (ρ22) (a0) 14) ≤ (tI (ρ22) (a0) 15) then J_X1_flush_73 b0 fu    (ρ22) else osm (tA (sI (ρ22) (a0) 15 (tI (ρ22) (a0) 14)) (a0) 0) (fun a27 => ckO b0 (sI (ρ22) (a0) 15 (tI (ρ22) (a0) 14)) (a27) 0 (clx (m_X0_put b0 fu (a27) (0) (tI (sI (ρ22) (a0) 15 (tI (ρ22) (a0) 14)) (a0) 15) (sI (ρ22) (a0) 15 (tI (ρ22) (a0) 14))) (fun v31 ρ32 => J_X1_flush_73 b0 fu    (ρ32))))))))))))))))
set_option maxRecDepth 100000 in
set_option maxHeartbeats 1000000 in
theorem j_X1_flush_73 {p : Program} {l : Launch} {e : Env} {s : State} {m : MethodId} {args : Array Value} {below : List Frame} {meth : Method} {c : Code} {D : va_G} {aC : Nat → ClassId} {b0 fu : Nat} {σ0 τ : tM} {v : (Unit) ⊕ Unit}  (C : tCx p l s m args meth c yX1_flush.cls cX1_flush 1 none D aC b0 σ0) (htab : ∀ x ∈ c.exceptionTable.toList, False) (hin : meth.name = yX1_flush.name)   {σ : tM} (hm : J_X1_flush_73 b0 fu   σ = some (v, τ)) : tX p l e s m args below meth c 1 8 133 D aC b0 σ0 (rxV "java/lang/IllegalStateException" v) τ 73 [] [] σ := by
  unfold J_X1_flush_73 at hm
  obtain ⟨rfl, rfl⟩ := ret_e hm
  exact zx_vret C rfl rfl rfl dX1_flush_73
set_option maxRecDepth 100000 in
set_option maxHeartbeats 1000000 in
theorem c_X1_flush {l : Launch} {D : va_G} {aC : Nat → ClassId} {b0 fu : Nat} {a0 : Nat} {σ τ : tM} {v : (Unit) ⊕ Unit} (hm : m_X1_flush b0 fu a0 σ = some (v, τ)) : tMt l D aC b0 yX1_flush (Cond.code yX1_flush cX1_flush 1 none) 8 133 [.ref (a0)] σ (rxV "java/lang/IllegalStateException" v) τ := by
  unfold m_X1_flush at hm
  obtain ⟨hg, hm⟩ := grw_e hm
  refine tMt_of (n := 0) rfl (Nat.le_of_ble_eq_true rfl) hg ?_
  intro p e s m below meth c C htab hin
  refine zx_lv [0] [(0, .ref (a0))] rfl ?_
  refine zx_aload_n C dX1_flush_0 0 rfl ?_
  obtain ⟨k1, i2, hm⟩ := ckO_e hm
  obtain ⟨a3, h4, hm⟩ := osm_e hm
  refine zx_get (j := 0) C tC_1 k1 i2 ⟨by decide, Or.inl W_1_180⟩ dX1_flush_1 (.ref a3) (rf_s h4) ?_
  obtain ⟨k5, i6, hm⟩ := ckO_e hm
  rcases clx_e hm with ⟨v7, ρ8, h9, hm⟩ | ⟨ρ8, h9, hm⟩
  · refine zx_callV (σ := σ) C [] tC_0 k5 i6 Y_X0_flushCache W_3_195 W_3_196 W_3_197 (c_X0_flushCache h9) (by decide) (by decide) rfl (Nat.le_of_ble_eq_true rfl) dX1_flush_4 rfl ?_
    refine zx_aload_n C dX1_flush_7 0 rfl ?_
    refine zx_aload_n C dX1_flush_8 0 rfl ?_
    obtain ⟨k10, i11, hm⟩ := ckO_e hm
    refine zx_get (j := 12) C tC_1 k10 i11 ⟨by decide, Or.inl W_1_192⟩ dX1_flush_9 (.int (tI (ρ8) (a0) 12)) rfl ?_
    refine zx_put (j := 13) (ρ := sI (ρ8) (a0) 13 (tI (ρ8) (a0) 12)) C tC_1 k10 i11 ⟨by decide, Or.inl W_1_193⟩ rfl rfl rfl (sI_ok (fun _ => rfl)) dX1_flush_12 ?_
    refine zx_aload_n C dX1_flush_15 0 rfl ?_
    obtain ⟨a12, h13, hm⟩ := osm_e hm
    refine zx_get (j := 1) C tC_1 k10 i11 ⟨by decide, Or.inl W_1_181⟩ dX1_flush_16 (.ref a12) (rf_s h13) ?_
    refine zx_aload_n C dX1_flush_19 0 rfl ?_
    refine zx_get (j := 13) C tC_1 k10 i11 ⟨by decide, Or.inl W_1_193⟩ dX1_flush_20 (.int (tI (sI (ρ8) (a0) 13 (tI (ρ8) (a0) 12)) (a0) 13)) rfl ?_
    obtain ⟨k14, i15, hm⟩ := ckO_e hm
    obtain ⟨v16, ρ17, h18, hm⟩ := cll_e hm
    refine zx_callV (σ := sI (ρ8) (a0) 13 (tI (ρ8) (a0) 12)) C [.int (tI (sI (ρ8) (a0) 13 (tI (ρ8) (a0) 12)) (a0) 13)] tC_5 k14 i15 Y_X5_freeRetired W_3_216 W_3_217 W_3_218 (c_X5_freeRetired h18) (by decide) (by decide) rfl (Nat.le_of_ble_eq_true rfl) dX1_flush_23 rfl ?_
    refine zx_aload_n C dX1_flush_26 0 rfl ?_
    refine zx_aload_n C dX1_flush_27 0 rfl ?_
    obtain ⟨k19, i20, hm⟩ := ckO_e hm
    refine zx_get (j := 15) C tC_1 k19 i20 ⟨by decide, Or.inl W_1_195⟩ dX1_flush_28 (.int (tI (ρ17) (a0) 15)) rfl ?_
    refine zx_put (j := 16) (ρ := sI (ρ17) (a0) 16 (tI (ρ17) (a0) 15)) C tC_1 k19 i20 ⟨by decide, Or.inl W_1_196⟩ rfl rfl rfl (sI_ok (fun _ => rfl)) dX1_flush_31 ?_
    refine zx_aload_n C dX1_flush_34 0 rfl ?_
    refine zx_aload_n C dX1_flush_35 0 rfl ?_
    refine zx_get (j := 16) C tC_1 k19 i20 ⟨by decide, Or.inl W_1_196⟩ dX1_flush_36 (.int (tI (sI (ρ17) (a0) 16 (tI (ρ17) (a0) 15)) (a0) 16)) rfl ?_
    obtain ⟨v21, ρ22, h23, hm⟩ := cll_e hm
    refine zx_callV (σ := sI (ρ17) (a0) 16 (tI (ρ17) (a0) 15)) C [.int (tI (sI (ρ17) (a0) 16 (tI (ρ17) (a0) 15)) (a0) 16)] tC_1 k19 i20 Y_X1_fold W_3_220 W_3_222 Wp_15 (c_X1_fold h23) (by decide) (by decide) rfl (Nat.le_of_ble_eq_true rfl) dX1_flush_39 rfl ?_
    refine zx_aload_n C dX1_flush_42 0 rfl ?_
    obtain ⟨k24, i25, hm⟩ := ckO_e hm
    refine zx_get (j := 14) C tC_1 k24 i25 ⟨by decide, Or.inl W_1_194⟩ dX1_flush_43 (.int (tI (ρ22) (a0) 14)) rfl ?_
    refine zx_aload_n C dX1_flush_46 0 rfl ?_
    refine zx_get (j := 15) C tC_1 k24 i25 ⟨by decide, Or.inl W_1_195⟩ dX1_flush_47 (.int (tI (ρ22) (a0) 15)) rfl ?_
    refine zx_icmp_le C 73 dX1_flush_50 (by decide) (fun c26 => ?_) (fun c26 => ?_)
    · replace hm := ip_e hm c26
      exact zx_lv [] [] rfl (j_X1_flush_73 C htab hin    hm)
    · replace hm := in_e hm c26
      refine zx_aload_n C dX1_flush_53 0 rfl ?_
      refine zx_aload_n C dX1_flush_54 0 rfl ?_
      refine zx_get (j := 14) C tC_1 k24 i25 ⟨by decide, Or.inl W_1_194⟩ dX1_flush_55 (.int (tI (ρ22) (a0) 14)) rfl ?_
      refine zx_put (j := 15) (ρ := sI (ρ22) (a0) 15 (tI (ρ22) (a0) 14)) C tC_1 k24 i25 ⟨by decide, Or.inl W_1_195⟩ rfl rfl rfl (sI_ok (fun _ => rfl)) dX1_flush_58 ?_
      refine zx_aload_n C dX1_flush_61 0 rfl ?_
      obtain ⟨a27, h28, hm⟩ := osm_e hm
      refine zx_get (j := 0) C tC_1 k24 i25 ⟨by decide, Or.inl W_1_180⟩ dX1_flush_62 (.ref a27) (rf_s h28) ?_
      refine zx_iconst (v := 0) C dX1_flush_65 (by decide) ?_
      refine zx_aload_n C dX1_flush_66 0 rfl ?_
      refine zx_get (j := 15) C tC_1 k24 i25 ⟨by decide, Or.inl W_1_195⟩ dX1_flush_67 (.int (tI (sI (ρ22) (a0) 15 (tI (ρ22) (a0) 14)) (a0) 15)) rfl ?_
      obtain ⟨k29, i30, hm⟩ := ckO_e hm
      rcases clx_e hm with ⟨v31, ρ32, h33, hm⟩ | ⟨ρ32, h33, hm⟩
      · refine zx_callV (σ := sI (ρ22) (a0) 15 (tI (ρ22) (a0) 14)) C [.int (0), .int (tI (sI (ρ22) (a0) 15 (tI (ρ22) (a0) 14)) (a0) 15)] tC_0 k29 i30 Y_X0_put W_3_228 W_3_229 W_3_230 (c_X0_put h33) (by decide) (by decide) rfl (Nat.le_of_ble_eq_true rfl) dX1_flush_70 rfl ?_
        exact zx_lv [] [] rfl (j_X1_flush_73 C htab hin    hm)
      · cases hm
        exact zx_outV (σ := sI (ρ22) (a0) 15 (tI (ρ22) (a0) 14)) C htab [.int (0), .int (tI (sI (ρ22) (a0) 15 (tI (ρ22) (a0) 14)) (a0) 15)] tC_0 k29 i30 Y_X0_put W_3_228 W_3_229 W_3_230 (c_X0_put h33) rfl (by decide) (by decide) rfl (Nat.le_of_ble_eq_true rfl) dX1_flush_70 rfl
  · cases hm
    exact zx_outV (σ := σ) C htab [] tC_0 k5 i6 Y_X0_flushCache W_3_195 W_3_196 W_3_197 (c_X0_flushCache h9) rfl (by decide) (by decide) rfl (Nat.le_of_ble_eq_true rfl) dX1_flush_4 rfl
