abbrev cX9_look : ByteArray := prog_11_method_7_code
def yX9_look : MethodName := ⟨"SyncTree$Walker", "look", "(III)I"⟩
theorem Y_X9_look : tY yX9_look cX9_look 5 (some .int) 3 := ⟨W_4_91, W_1_7, ⟨by decide +kernel, by decide +kernel⟩, by decide +kernel⟩
theorem dX9_look_0 : decode cX9_look 0 = .ok (.aload_n 0, 1) := by decide +kernel
theorem dX9_look_1 : decode cX9_look 1 = .ok (.getfield 15, 3) := by decide +kernel
theorem dX9_look_4 : decode cX9_look 4 = .ok (.iload_n 1, 1) := by decide +kernel
theorem dX9_look_5 : decode cX9_look 5 = .ok (.invokevirtual 36, 3) := by decide +kernel
theorem dX9_look_8 : decode cX9_look 8 = .ok (.iconst 2, 1) := by decide +kernel
theorem dX9_look_9 : decode cX9_look 9 = .ok (.if_icmp .eq 6, 3) := by decide +kernel
theorem dX9_look_12 : decode cX9_look 12 = .ok (.bipush (-3), 2) := by decide +kernel
theorem dX9_look_14 : decode cX9_look 14 = .ok (.ireturn, 1) := by decide +kernel
theorem dX9_look_15 : decode cX9_look 15 = .ok (.aload_n 0, 1) := by decide +kernel
theorem dX9_look_16 : decode cX9_look 16 = .ok (.getfield 11, 3) := by decide +kernel
theorem dX9_look_19 : decode cX9_look 19 = .ok (.iload_n 2, 1) := by decide +kernel
theorem dX9_look_20 : decode cX9_look 20 = .ok (.iload_n 3, 1) := by decide +kernel
theorem dX9_look_21 : decode cX9_look 21 = .ok (.invokestatic 83, 3) := by decide +kernel
theorem dX9_look_24 : decode cX9_look 24 = .ok (.ifCond .eq 21, 3) := by decide +kernel
theorem dX9_look_27 : decode cX9_look 27 = .ok (.iload_n 3, 1) := by decide +kernel
theorem dX9_look_28 : decode cX9_look 28 = .ok (.iconst 1, 1) := by decide +kernel
theorem dX9_look_29 : decode cX9_look 29 = .ok (.if_icmp .ne 7, 3) := by decide +kernel
theorem dX9_look_32 : decode cX9_look 32 = .ok (.iload_n 1, 1) := by decide +kernel
theorem dX9_look_33 : decode cX9_look 33 = .ok (.goto 11, 3) := by decide +kernel
theorem dX9_look_36 : decode cX9_look 36 = .ok (.aload_n 0, 1) := by decide +kernel
theorem dX9_look_37 : decode cX9_look 37 = .ok (.getfield 15, 3) := by decide +kernel
theorem dX9_look_40 : decode cX9_look 40 = .ok (.iload_n 1, 1) := by decide +kernel
theorem dX9_look_41 : decode cX9_look 41 = .ok (.invokevirtual 87, 3) := by decide +kernel
theorem dX9_look_44 : decode cX9_look 44 = .ok (.ireturn, 1) := by decide +kernel
theorem dX9_look_45 : decode cX9_look 45 = .ok (.iload_n 3, 1) := by decide +kernel
theorem dX9_look_46 : decode cX9_look 46 = .ok (.bipush 28, 2) := by decide +kernel
theorem dX9_look_48 : decode cX9_look 48 = .ok (.if_icmp .le 6, 3) := by decide +kernel
theorem dX9_look_51 : decode cX9_look 51 = .ok (.bipush (-7), 2) := by decide +kernel
theorem dX9_look_53 : decode cX9_look 53 = .ok (.ireturn, 1) := by decide +kernel
theorem dX9_look_54 : decode cX9_look 54 = .ok (.aload_n 0, 1) := by decide +kernel
theorem dX9_look_55 : decode cX9_look 55 = .ok (.getfield 15, 3) := by decide +kernel
theorem dX9_look_58 : decode cX9_look 58 = .ok (.iload_n 1, 1) := by decide +kernel
theorem dX9_look_59 : decode cX9_look 59 = .ok (.aload_n 0, 1) := by decide +kernel
theorem dX9_look_60 : decode cX9_look 60 = .ok (.getfield 11, 3) := by decide +kernel
theorem dX9_look_63 : decode cX9_look 63 = .ok (.iload_n 2, 1) := by decide +kernel
theorem dX9_look_64 : decode cX9_look 64 = .ok (.iload_n 3, 1) := by decide +kernel
theorem dX9_look_65 : decode cX9_look 65 = .ok (.invokevirtual 90, 3) := by decide +kernel
theorem dX9_look_68 : decode cX9_look 68 = .ok (.istore 4, 2) := by decide +kernel
theorem dX9_look_70 : decode cX9_look 70 = .ok (.iload 4, 2) := by decide +kernel
theorem dX9_look_72 : decode cX9_look 72 = .ok (.ifCond .ge 7, 3) := by decide +kernel
theorem dX9_look_75 : decode cX9_look 75 = .ok (.iconst (-1), 1) := by decide +kernel
theorem dX9_look_76 : decode cX9_look 76 = .ok (.goto 13, 3) := by decide +kernel
theorem dX9_look_79 : decode cX9_look 79 = .ok (.aload_n 0, 1) := by decide +kernel
theorem dX9_look_80 : decode cX9_look 80 = .ok (.getfield 15, 3) := by decide +kernel
theorem dX9_look_83 : decode cX9_look 83 = .ok (.iload_n 1, 1) := by decide +kernel
theorem dX9_look_84 : decode cX9_look 84 = .ok (.iload 4, 2) := by decide +kernel
theorem dX9_look_86 : decode cX9_look 86 = .ok (.invokevirtual 94, 3) := by decide +kernel
theorem dX9_look_89 : decode cX9_look 89 = .ok (.ireturn, 1) := by decide +kernel
def J_X9_look_89 (b0 fu : Nat)  (s0 : Int32) (σ : tM) : Option ((Int32) × tM) := some (s0, σ)
def J_X9_look_44 (b0 fu : Nat)  (s0 : Int32) (σ : tM) : Option ((Int32) × tM) := some (s0, σ)
def m_X9_look (b0 fu : Nat) (a0 : Nat) (p0 : Int32) (p1 : Int32) (p2 : Int32) (σ : tM) : Option ((Int32) × tM) := grw σ (ckO b0 (σ) (a0) 9 (osm (tA (σ) (a0) 0) (fun a3 => ckO b0 (σ) (a3) 8 (cll (m_X8_kind b0 fu (a3) (p0) (σ)) (fun v7 ρ8 => if (v7) = (2) then ckO b0 (ρ8) (a0) 9 (osm (tA (ρ8) (a0) 1) (fun a13 => cll (m_X3_isDots b0 fu (a13) (p1) (p2) (ρ8)) (fun v15 ρ16 => if (v15) = (0) then if (p2) ≤ (28) then ckO b0 (ρ16) (a0) 9 (osm (tA (ρ16) (a0) 0) (fun a22 => osm (tA (ρ16) (a0) 1) (fun a24 => ckO b0 (ρ16) (a22) 8 (cll (m_X8_find b0 fu (a22) (p0) (a24) (p1) (p2) (ρ16)) (fun v28 ρ29 => if (0) ≤ (v28) then ckO b0 (ρ29) (a0) 9 (osm (tA (ρ29) (a0) 0) (fun a34 => ckO b0 (ρ29) (a34) 8 (cll (m_X8_nodeAt b0 fu (a34) (p0) (v28) (ρ29)) (fun v38 ρ39 => J_X9_look_89 b0 fu   (v38) (ρ39))))) else J_X9_look_89 b0 fu   ((-1)) (ρ29)))))) else some ((-7), ρ16) else if (p2) = (1) then J_X9_look_44 b0 fu   (p0) (ρ16) else ckO b0 (ρ16) (a0) 9 (osm (tA (ρ16) (a0) 0) (fun a44 => ckO b0 (ρ16) (a44) 8 (cll (m_X8_parent b0 fu (a44) (p0) (ρ16)) (fun v48 ρ49 => J_X9_look_44 b0 fu   (v48) (ρ49)))))))) else some ((-3), ρ8))))))
set_option maxRecDepth 100000 in
set_option maxHeartbeats 1000000 in
theorem j_X9_look_89 {p : Program} {l : Launch} {e : Env} {s : State} {m : MethodId} {args : Array Value} {below : List Frame} {meth : Method} {c : Code} {D : va_G} {aC : Nat → ClassId} {b0 fu : Nat} {σ0 τ : tM} {v : Int32}  (C : tCx p s m args meth c yX9_look.cls cX9_look 5 (some .int) D aC b0 σ0) (htab : ∀ x ∈ c.exceptionTable.toList, False) (hin : meth.name = yX9_look.name)  {s0 : Int32} {σ : tM} (hm : J_X9_look_89 b0 fu  s0 σ = some (v, τ)) : tX p l e s m args below meth c 5 3 76 D aC b0 σ0 (.inl (some (.int v))) τ 89 [] [.int (s0)] σ := by
  unfold J_X9_look_89 at hm
  obtain ⟨rfl, rfl⟩ := ret_e hm
  exact zx_iret C rfl rfl rfl dX9_look_89
set_option maxRecDepth 100000 in
set_option maxHeartbeats 1000000 in
theorem j_X9_look_44 {p : Program} {l : Launch} {e : Env} {s : State} {m : MethodId} {args : Array Value} {below : List Frame} {meth : Method} {c : Code} {D : va_G} {aC : Nat → ClassId} {b0 fu : Nat} {σ0 τ : tM} {v : Int32}  (C : tCx p s m args meth c yX9_look.cls cX9_look 5 (some .int) D aC b0 σ0) (htab : ∀ x ∈ c.exceptionTable.toList, False) (hin : meth.name = yX9_look.name)  {s0 : Int32} {σ : tM} (hm : J_X9_look_44 b0 fu  s0 σ = some (v, τ)) : tX p l e s m args below meth c 5 3 76 D aC b0 σ0 (.inl (some (.int v))) τ 44 [] [.int (s0)] σ := by
  unfold J_X9_look_44 at hm
  obtain ⟨rfl, rfl⟩ := ret_e hm
  exact zx_iret C rfl rfl rfl dX9_look_44
set_option maxRecDepth 100000 in
set_option maxHeartbeats 1000000 in
theorem c_X9_look {l : Launch} {D : va_G} {aC : Nat → ClassId} {b0 fu : Nat} {a0 : Nat} {p0 : Int32} {p1 : Int32} {p2 : Int32} {σ τ : tM} {v : Int32} (hm : m_X9_look b0 fu a0 p0 p1 p2 σ = some (v, τ)) : tMt l D aC b0 yX9_look (Cond.code yX9_look cX9_look 5 (some .int)) 3 76 [.ref (a0), .int (p0), .int (p1), .int (p2)] σ (.inl (some (.int v))) τ := by
  unfold m_X9_look at hm
  obtain ⟨hg, hm⟩ := grw_e hm
  refine tMt_of (n := 0) rfl (Nat.le_of_ble_eq_true rfl) hg ?_
  intro p e s m below meth c C htab hin
  refine zx_lv [0, 1, 2, 3] [(0, .ref (a0)), (1, .int (p0)), (2, .int (p1)), (3, .int (p2))] rfl ?_
  refine zx_aload_n C dX9_look_0 0 rfl ?_
  obtain ⟨k1, i2, hm⟩ := ckO_e hm
  obtain ⟨a3, h4, hm⟩ := osm_e hm
  refine zx_get (j := 0) C tC_9 k1 i2 ⟨by decide, Or.inl W_2_20⟩ dX9_look_1 (.ref a3) (rf_s h4) ?_
  refine zx_iload_n C dX9_look_4 1 rfl ?_
  obtain ⟨k5, i6, hm⟩ := ckO_e hm
  obtain ⟨v7, ρ8, h9, hm⟩ := cll_e hm
  refine zx_callV (σ := σ) C [.int (p0)] tC_8 k5 i6 Y_X8_kind W_4_92 W_3_80 W_3_81 (c_X8_kind h9) (by decide) (by decide) rfl (Nat.le_of_ble_eq_true rfl) dX9_look_5 rfl ?_
  refine zx_iconst (v := 2) C dX9_look_8 (by decide) ?_
  refine zx_icmp_eq C 15 dX9_look_9 (by decide) (fun c10 => ?_) (fun c10 => ?_)
  · replace hm := ip_e hm c10
    refine zx_aload_n C dX9_look_15 0 rfl ?_
    obtain ⟨k11, i12, hm⟩ := ckO_e hm
    obtain ⟨a13, h14, hm⟩ := osm_e hm
    refine zx_get (j := 1) C tC_9 k11 i12 ⟨by decide, Or.inl W_2_21⟩ dX9_look_16 (.ref a13) (rf_s h14) ?_
    refine zx_iload_n C dX9_look_19 2 rfl ?_
    refine zx_iload_n C dX9_look_20 3 rfl ?_
    obtain ⟨v15, ρ16, h17, hm⟩ := cll_e hm
    refine zx_callS (σ := ρ8) C [.ref (a13), .int (p1), .int (p2)] Y_X3_isDots W_4_93 W_4_94 (c_X3_isDots h17) (by decide) (by decide) rfl (Nat.le_of_ble_eq_true rfl) dX9_look_21 rfl ?_
    refine zx_if_eq C 45 dX9_look_24 (by decide) (fun c18 => ?_) (fun c18 => ?_)
    · replace hm := ip_e hm c18
      refine zx_iload_n C dX9_look_45 3 rfl ?_
      refine zx_bipush (v := 28) C dX9_look_46 (by decide) ?_
      refine zx_icmp_le C 54 dX9_look_48 (by decide) (fun c19 => ?_) (fun c19 => ?_)
      · replace hm := ip_e hm c19
        refine zx_aload_n C dX9_look_54 0 rfl ?_
        obtain ⟨k20, i21, hm⟩ := ckO_e hm
        obtain ⟨a22, h23, hm⟩ := osm_e hm
        refine zx_get (j := 0) C tC_9 k20 i21 ⟨by decide, Or.inl W_2_20⟩ dX9_look_55 (.ref a22) (rf_s h23) ?_
        refine zx_iload_n C dX9_look_58 1 rfl ?_
        refine zx_aload_n C dX9_look_59 0 rfl ?_
        obtain ⟨a24, h25, hm⟩ := osm_e hm
        refine zx_get (j := 1) C tC_9 k20 i21 ⟨by decide, Or.inl W_2_21⟩ dX9_look_60 (.ref a24) (rf_s h25) ?_
        refine zx_iload_n C dX9_look_63 2 rfl ?_
        refine zx_iload_n C dX9_look_64 3 rfl ?_
        obtain ⟨k26, i27, hm⟩ := ckO_e hm
        obtain ⟨v28, ρ29, h30, hm⟩ := cll_e hm
        refine zx_callV (σ := ρ16) C [.int (p0), .ref (a24), .int (p1), .int (p2)] tC_8 k26 i27 Y_X8_find W_4_100 W_4_101 W_4_102 (c_X8_find h30) (by decide) (by decide) rfl (Nat.le_of_ble_eq_true rfl) dX9_look_65 rfl ?_
        refine zx_istore C [(4, .int (v28)), (0, .ref (a0)), (1, .int (p0)), (2, .int (p1)), (3, .int (p2))] dX9_look_68 (by decide) rfl ?_
        refine zx_iload C dX9_look_70 0 rfl ?_
        refine zx_if_ge C 79 dX9_look_72 (by decide) (fun c31 => ?_) (fun c31 => ?_)
        · replace hm := ip_e hm c31
          refine zx_aload_n C dX9_look_79 1 rfl ?_
          obtain ⟨k32, i33, hm⟩ := ckO_e hm
          obtain ⟨a34, h35, hm⟩ := osm_e hm
          refine zx_get (j := 0) C tC_9 k32 i33 ⟨by decide, Or.inl W_2_20⟩ dX9_look_80 (.ref a34) (rf_s h35) ?_
          refine zx_iload_n C dX9_look_83 2 rfl ?_
          refine zx_iload C dX9_look_84 0 rfl ?_
          obtain ⟨k36, i37, hm⟩ := ckO_e hm
          obtain ⟨v38, ρ39, h40, hm⟩ := cll_e hm
          refine zx_callV (σ := ρ29) C [.int (p0), .int (v28)] tC_8 k36 i37 Y_X8_nodeAt W_4_124 W_4_125 W_4_126 (c_X8_nodeAt h40) (by decide) (by decide) rfl (Nat.le_of_ble_eq_true rfl) dX9_look_86 rfl ?_
          exact zx_lv [] [] rfl (j_X9_look_89 C htab hin    hm)
        · replace hm := in_e hm c31
          refine zx_iconst (v := (-1)) C dX9_look_75 (by decide) ?_
          refine zx_goto C 89 dX9_look_76 (by decide) ?_
          exact zx_lv [] [] rfl (j_X9_look_89 C htab hin    hm)
      · replace hm := in_e hm c19
        refine zx_bipush (v := (-7)) C dX9_look_51 (by decide) ?_
        obtain ⟨rfl, rfl⟩ := ret_e hm
        exact zx_iret C rfl rfl rfl dX9_look_53
    · replace hm := in_e hm c18
      refine zx_iload_n C dX9_look_27 3 rfl ?_
      refine zx_iconst (v := 1) C dX9_look_28 (by decide) ?_
      refine zx_icmp_ne C 36 dX9_look_29 (by decide) (fun c41 => ?_) (fun c41 => ?_)
      · replace hm := in_e hm c41
        refine zx_aload_n C dX9_look_36 0 rfl ?_
        obtain ⟨k42, i43, hm⟩ := ckO_e hm
        obtain ⟨a44, h45, hm⟩ := osm_e hm
        refine zx_get (j := 0) C tC_9 k42 i43 ⟨by decide, Or.inl W_2_20⟩ dX9_look_37 (.ref a44) (rf_s h45) ?_
        refine zx_iload_n C dX9_look_40 1 rfl ?_
        obtain ⟨k46, i47, hm⟩ := ckO_e hm
        obtain ⟨v48, ρ49, h50, hm⟩ := cll_e hm
        refine zx_callV (σ := ρ16) C [.int (p0)] tC_8 k46 i47 Y_X8_parent W_4_96 W_4_97 W_4_98 (c_X8_parent h50) (by decide) (by decide) rfl (Nat.le_of_ble_eq_true rfl) dX9_look_41 rfl ?_
        exact zx_lv [] [] rfl (j_X9_look_44 C htab hin    hm)
      · replace hm := ip_e hm c41
        refine zx_iload_n C dX9_look_32 1 rfl ?_
        refine zx_goto C 44 dX9_look_33 (by decide) ?_
        exact zx_lv [] [] rfl (j_X9_look_44 C htab hin    hm)
  · replace hm := in_e hm c10
    refine zx_bipush (v := (-3)) C dX9_look_12 (by decide) ?_
    obtain ⟨rfl, rfl⟩ := ret_e hm
    exact zx_iret C rfl rfl rfl dX9_look_14
abbrev cX10_feed : ByteArray := prog_1_method_4_code
def yX10_feed : MethodName := ⟨"SyncTree", "feed", "(IIIII)I"⟩
theorem Y_X10_feed : tY yX10_feed cX10_feed 6 (some .int) 5 := ⟨W_3_11, W_1_1, ⟨by decide +kernel, by decide +kernel⟩, by decide +kernel⟩
theorem dX10_feed_0 : decode cX10_feed 0 = .ok (.aload_n 0, 1) := by decide +kernel
theorem dX10_feed_1 : decode cX10_feed 1 = .ok (.getfield 62, 3) := by decide +kernel
theorem dX10_feed_4 : decode cX10_feed 4 = .ok (.invokevirtual 108, 3) := by decide +kernel
theorem dX10_feed_7 : decode cX10_feed 7 = .ok (.ifCond .ne 6, 3) := by decide +kernel
theorem dX10_feed_10 : decode cX10_feed 10 = .ok (.bipush (-9), 2) := by decide +kernel
theorem dX10_feed_12 : decode cX10_feed 12 = .ok (.ireturn, 1) := by decide +kernel
theorem dX10_feed_13 : decode cX10_feed 13 = .ok (.aload_n 0, 1) := by decide +kernel
theorem dX10_feed_14 : decode cX10_feed 14 = .ok (.getfield 62, 3) := by decide +kernel
theorem dX10_feed_17 : decode cX10_feed 17 = .ok (.iload_n 1, 1) := by decide +kernel
theorem dX10_feed_18 : decode cX10_feed 18 = .ok (.invokevirtual 112, 3) := by decide +kernel
theorem dX10_feed_21 : decode cX10_feed 21 = .ok (.aload_n 0, 1) := by decide +kernel
theorem dX10_feed_22 : decode cX10_feed 22 = .ok (.getfield 62, 3) := by decide +kernel
theorem dX10_feed_25 : decode cX10_feed 25 = .ok (.iload_n 2, 1) := by decide +kernel
theorem dX10_feed_26 : decode cX10_feed 26 = .ok (.invokevirtual 112, 3) := by decide +kernel
theorem dX10_feed_29 : decode cX10_feed 29 = .ok (.aload_n 0, 1) := by decide +kernel
theorem dX10_feed_30 : decode cX10_feed 30 = .ok (.getfield 62, 3) := by decide +kernel
theorem dX10_feed_33 : decode cX10_feed 33 = .ok (.iload_n 3, 1) := by decide +kernel
theorem dX10_feed_34 : decode cX10_feed 34 = .ok (.invokevirtual 112, 3) := by decide +kernel
theorem dX10_feed_37 : decode cX10_feed 37 = .ok (.aload_n 0, 1) := by decide +kernel
theorem dX10_feed_38 : decode cX10_feed 38 = .ok (.getfield 62, 3) := by decide +kernel
theorem dX10_feed_41 : decode cX10_feed 41 = .ok (.iload 4, 2) := by decide +kernel
theorem dX10_feed_43 : decode cX10_feed 43 = .ok (.invokevirtual 112, 3) := by decide +kernel
theorem dX10_feed_46 : decode cX10_feed 46 = .ok (.aload_n 0, 1) := by decide +kernel
theorem dX10_feed_47 : decode cX10_feed 47 = .ok (.getfield 62, 3) := by decide +kernel
theorem dX10_feed_50 : decode cX10_feed 50 = .ok (.iload 5, 2) := by decide +kernel
theorem dX10_feed_52 : decode cX10_feed 52 = .ok (.invokevirtual 112, 3) := by decide +kernel
theorem dX10_feed_55 : decode cX10_feed 55 = .ok (.aload_n 0, 1) := by decide +kernel
theorem dX10_feed_56 : decode cX10_feed 56 = .ok (.getfield 62, 3) := by decide +kernel
theorem dX10_feed_59 : decode cX10_feed 59 = .ok (.getfield 115, 3) := by decide +kernel
theorem dX10_feed_62 : decode cX10_feed 62 = .ok (.ireturn, 1) := by decide +kernel
def m_X10_feed (b0 fu : Nat) (a0 : Nat) (p0 : Int32) (p1 : Int32) (p2 : Int32) (p3 : Int32) (p4 : Int32) (σ : tM) : Option ((Int32) × tM) := grw σ (ckO b0 (σ) (a0) 10 (osm (tA (σ) (a0) 6) (fun a3 => ckO b0 (σ) (a3) 6 (cll (m_X6_hasSpace b0 fu (a3) (σ)) (fun v7 ρ8 => if (v7) = (0) then some ((-9), ρ8) else ckO b0 (ρ8) (a0) 10 (osm (tA (ρ8) (a0) 6) (fun a13 => ckO b0 (ρ8) (a13) 6 (cll (m_X6_append b0 fu (a13) (p0) (ρ8)) (fun v17 ρ18 => ckO b0 (ρ18) (a0) 10 (osm (tA (ρ18) (a0) 6) (fun a22 => ckO b0 (ρ18) (a22) 6 (cll (m_X6_append b0 fu (a22) (p1) (ρ18)) (fun v26 ρ27 => ckO b0 (ρ27) (a0) 10 (osm (tA (ρ27) (a0) 6) (fun a31 => ckO b0 (ρ27) (a31) 6 (cll (m_X6_append b0 fu (a31) (p2) (ρ27)) (fun v35 ρ36 => ckO b0 (ρ36) (a0) 10 (osm (tA (ρ36) (a0) 6) (fun a40 => ckO b0 (ρ36) (a40) 6 (cll (m_X6_append b0 fu (a40) (p3) (ρ36)) (fun v44 ρ45 => ckO b0 (ρ45) (a0) 10 (osm (tA (ρ45) (a0) 6) (fun a49 => ckO b0 (ρ45) (a49) 6 (cll (m_X6_append b0 fu (a49) (p4) (ρ45)) (fun v53 ρ54 => ckO b0 (ρ54) (a0) 10 (osm (tA (ρ54) (a0) 6) (fun a58 => ckO b0 (ρ54) (a58) 6 (some (tI (ρ54) (a58) 1, ρ54)))))))))))))))))))))))))))))
set_option maxRecDepth 100000 in
set_option maxHeartbeats 1000000 in
theorem c_X10_feed {l : Launch} {D : va_G} {aC : Nat → ClassId} {b0 fu : Nat} {a0 : Nat} {p0 : Int32} {p1 : Int32} {p2 : Int32} {p3 : Int32} {p4 : Int32} {σ τ : tM} {v : Int32} (hm : m_X10_feed b0 fu a0 p0 p1 p2 p3 p4 σ = some (v, τ)) : tMt l D aC b0 yX10_feed (Cond.code yX10_feed cX10_feed 6 (some .int)) 1 22 [.ref (a0), .int (p0), .int (p1), .int (p2), .int (p3), .int (p4)] σ (.inl (some (.int v))) τ := by
  unfold m_X10_feed at hm
  obtain ⟨hg, hm⟩ := grw_e hm
  refine tMt_of (n := 0) rfl (Nat.le_of_ble_eq_true rfl) hg ?_
  intro p e s m below meth c C htab hin
  refine zx_lv [0, 1, 2, 3, 4, 5] [(0, .ref (a0)), (1, .int (p0)), (2, .int (p1)), (3, .int (p2)), (4, .int (p3)), (5, .int (p4))] rfl ?_
  refine zx_aload_n C dX10_feed_0 0 rfl ?_
  obtain ⟨k1, i2, hm⟩ := ckO_e hm
  obtain ⟨a3, h4, hm⟩ := osm_e hm
  refine zx_get (j := 6) C tC_10 k1 i2 ⟨by decide, Or.inl W_2_219⟩ dX10_feed_1 (.ref a3) (rf_s h4) ?_
  obtain ⟨k5, i6, hm⟩ := ckO_e hm
  obtain ⟨v7, ρ8, h9, hm⟩ := cll_e hm
  refine zx_callV (σ := σ) C [] tC_6 k5 i6 Y_X6_hasSpace W_3_12 W_3_13 W_3_14 (c_X6_hasSpace h9) (by decide) (by decide) rfl (Nat.le_of_ble_eq_true rfl) dX10_feed_4 rfl ?_
  refine zx_if_ne C 13 dX10_feed_7 (by decide) (fun c10 => ?_) (fun c10 => ?_)
  · replace hm := in_e hm c10
    refine zx_aload_n C dX10_feed_13 0 rfl ?_
    obtain ⟨k11, i12, hm⟩ := ckO_e hm
    obtain ⟨a13, h14, hm⟩ := osm_e hm
    refine zx_get (j := 6) C tC_10 k11 i12 ⟨by decide, Or.inl W_2_219⟩ dX10_feed_14 (.ref a13) (rf_s h14) ?_
    refine zx_iload_n C dX10_feed_17 1 rfl ?_
    obtain ⟨k15, i16, hm⟩ := ckO_e hm
    obtain ⟨v17, ρ18, h19, hm⟩ := cll_e hm
    refine zx_callV (σ := ρ8) C [.int (p0)] tC_6 k15 i16 Y_X6_append W_3_16 W_3_17 W_3_18 (c_X6_append h19) (by decide) (by decide) rfl (Nat.le_of_ble_eq_true rfl) dX10_feed_18 rfl ?_
    refine zx_aload_n C dX10_feed_21 0 rfl ?_
    obtain ⟨k20, i21, hm⟩ := ckO_e hm
    obtain ⟨a22, h23, hm⟩ := osm_e hm
    refine zx_get (j := 6) C tC_10 k20 i21 ⟨by decide, Or.inl W_2_219⟩ dX10_feed_22 (.ref a22) (rf_s h23) ?_
    refine zx_iload_n C dX10_feed_25 2 rfl ?_
    obtain ⟨k24, i25, hm⟩ := ckO_e hm
    obtain ⟨v26, ρ27, h28, hm⟩ := cll_e hm
    refine zx_callV (σ := ρ18) C [.int (p1)] tC_6 k24 i25 Y_X6_append W_3_16 W_3_17 W_3_18 (c_X6_append h28) (by decide) (by decide) rfl (Nat.le_of_ble_eq_true rfl) dX10_feed_26 rfl ?_
    refine zx_aload_n C dX10_feed_29 0 rfl ?_
    obtain ⟨k29, i30, hm⟩ := ckO_e hm
    obtain ⟨a31, h32, hm⟩ := osm_e hm
    refine zx_get (j := 6) C tC_10 k29 i30 ⟨by decide, Or.inl W_2_219⟩ dX10_feed_30 (.ref a31) (rf_s h32) ?_
    refine zx_iload_n C dX10_feed_33 3 rfl ?_
    obtain ⟨k33, i34, hm⟩ := ckO_e hm
    obtain ⟨v35, ρ36, h37, hm⟩ := cll_e hm
    refine zx_callV (σ := ρ27) C [.int (p2)] tC_6 k33 i34 Y_X6_append W_3_16 W_3_17 W_3_18 (c_X6_append h37) (by decide) (by decide) rfl (Nat.le_of_ble_eq_true rfl) dX10_feed_34 rfl ?_
    refine zx_aload_n C dX10_feed_37 0 rfl ?_
    obtain ⟨k38, i39, hm⟩ := ckO_e hm
    obtain ⟨a40, h41, hm⟩ := osm_e hm
    refine zx_get (j := 6) C tC_10 k38 i39 ⟨by decide, Or.inl W_2_219⟩ dX10_feed_38 (.ref a40) (rf_s h41) ?_
    refine zx_iload C dX10_feed_41 4 rfl ?_
    obtain ⟨k42, i43, hm⟩ := ckO_e hm
    obtain ⟨v44, ρ45, h46, hm⟩ := cll_e hm
    refine zx_callV (σ := ρ36) C [.int (p3)] tC_6 k42 i43 Y_X6_append W_3_16 W_3_17 W_3_18 (c_X6_append h46) (by decide) (by decide) rfl (Nat.le_of_ble_eq_true rfl) dX10_feed_43 rfl ?_
    refine zx_aload_n C dX10_feed_46 0 rfl ?_
    obtain ⟨k47, i48, hm⟩ := ckO_e hm
    obtain ⟨a49, h50, hm⟩ := osm_e hm
    refine zx_get (j := 6) C tC_10 k47 i48 ⟨by decide, Or.inl W_2_219⟩ dX10_feed_47 (.ref a49) (rf_s h50) ?_
    refine zx_iload C dX10_feed_50 5 rfl ?_
    obtain ⟨k51, i52, hm⟩ := ckO_e hm
    obtain ⟨v53, ρ54, h55, hm⟩ := cll_e hm
    refine zx_callV (σ := ρ45) C [.int (p4)] tC_6 k51 i52 Y_X6_append W_3_16 W_3_17 W_3_18 (c_X6_append h55) (by decide) (by decide) rfl (Nat.le_of_ble_eq_true rfl) dX10_feed_52 rfl ?_
    refine zx_aload_n C dX10_feed_55 0 rfl ?_
    obtain ⟨k56, i57, hm⟩ := ckO_e hm
    obtain ⟨a58, h59, hm⟩ := osm_e hm
    refine zx_get (j := 6) C tC_10 k56 i57 ⟨by decide, Or.inl W_2_219⟩ dX10_feed_56 (.ref a58) (rf_s h59) ?_
    obtain ⟨k60, i61, hm⟩ := ckO_e hm
    refine zx_get (j := 1) C tC_6 k60 i61 ⟨by decide, Or.inr ⟨_, W_2_44⟩⟩ dX10_feed_59 (.int (tI (ρ54) (a58) 1)) rfl ?_
    obtain ⟨rfl, rfl⟩ := ret_e hm
    exact zx_iret C rfl rfl rfl dX10_feed_62
  · replace hm := ip_e hm c10
    refine zx_bipush (v := (-9)) C dX10_feed_10 (by decide) ?_
    obtain ⟨rfl, rfl⟩ := ret_e hm
    exact zx_iret C rfl rfl rfl dX10_feed_12
abbrev cX10_isHeld : ByteArray := prog_1_method_19_code
def yX10_isHeld : MethodName := ⟨"SyncTree", "isHeld", "(I)Z"⟩
theorem Y_X10_isHeld : tY yX10_isHeld cX10_isHeld 3 (some .boolean) 1 := ⟨W_5_87, W_1_1, ⟨by decide +kernel, by decide +kernel⟩, by decide +kernel⟩
theorem dX10_isHeld_0 : decode cX10_isHeld 0 = .ok (.iconst 0, 1) := by decide +kernel
theorem dX10_isHeld_1 : decode cX10_isHeld 1 = .ok (.istore_n 2, 1) := by decide +kernel
theorem dX10_isHeld_2 : decode cX10_isHeld 2 = .ok (.iload_n 2, 1) := by decide +kernel
theorem dX10_isHeld_3 : decode cX10_isHeld 3 = .ok (.bipush 16, 2) := by decide +kernel
theorem dX10_isHeld_5 : decode cX10_isHeld 5 = .ok (.if_icmp .ge 21, 3) := by decide +kernel
theorem dX10_isHeld_8 : decode cX10_isHeld 8 = .ok (.aload_n 0, 1) := by decide +kernel
theorem dX10_isHeld_9 : decode cX10_isHeld 9 = .ok (.getfield 76, 3) := by decide +kernel
theorem dX10_isHeld_12 : decode cX10_isHeld 12 = .ok (.iload_n 2, 1) := by decide +kernel
theorem dX10_isHeld_13 : decode cX10_isHeld 13 = .ok (.iaload, 1) := by decide +kernel
theorem dX10_isHeld_14 : decode cX10_isHeld 14 = .ok (.iload_n 1, 1) := by decide +kernel
theorem dX10_isHeld_15 : decode cX10_isHeld 15 = .ok (.if_icmp .ne 5, 3) := by decide +kernel
theorem dX10_isHeld_18 : decode cX10_isHeld 18 = .ok (.iconst 1, 1) := by decide +kernel
theorem dX10_isHeld_19 : decode cX10_isHeld 19 = .ok (.ireturn, 1) := by decide +kernel
theorem dX10_isHeld_20 : decode cX10_isHeld 20 = .ok (.iinc 2 1, 3) := by decide +kernel
theorem dX10_isHeld_23 : decode cX10_isHeld 23 = .ok (.goto (-21), 3) := by decide +kernel
theorem dX10_isHeld_26 : decode cX10_isHeld 26 = .ok (.iconst 0, 1) := by decide +kernel
theorem dX10_isHeld_27 : decode cX10_isHeld 27 = .ok (.ireturn, 1) := by decide +kernel
def L_X10_isHeld_2 (b0 fu : Nat)  : Nat → Nat → Int32 → Int32 → tM → Option ((Int32) × tM)
  | 0, _, _, _, _ => none
  | n + 1, x0, x1, x2, σ => ltb (L_X10_isHeld_2 b0 fu  n) (fun rc2 => if (16) ≤ (x2) then some (0, σ) else ckO b0 (σ) (x0) 10 (osm (tA (σ) (x0) 9) (fun a4 => ckR b0 (σ) (a4) 0 (fun n8 => ckI (x2) (n8) (if (tI (σ) (a4) ((x2).toNatClampNeg)) = (x1) then some (1, σ) else ltb ((x2) + Int32.ofInt 1) (fun y11 => rc2 (x0) (x1) (y11) (σ)))))))
def m_X10_isHeld (b0 fu : Nat) (a0 : Nat) (p0 : Int32) (σ : tM) : Option ((Int32) × tM) := grw σ (L_X10_isHeld_2 b0 fu  (fu) (a0) (p0) (0) (σ))
set_option maxRecDepth 100000 in
set_option maxHeartbeats 1000000 in
theorem l_X10_isHeld_2 {p : Program} {l : Launch} {e : Env} {s : State} {m : MethodId} {args : Array Value} {below : List Frame} {meth : Method} {c : Code} {D : va_G} {aC : Nat → ClassId} {b0 fu : Nat} {σ0 τ : tM} {v : Int32}  (C : tCx p s m args meth c yX10_isHeld.cls cX10_isHeld 3 (some .boolean) D aC b0 σ0) (htab : ∀ x ∈ c.exceptionTable.toList, False) (hin : meth.name = yX10_isHeld.name)  : ∀ (n : Nat) (x0 : Nat) (x1 : Int32) (x2 : Int32) (σ : tM), L_X10_isHeld_2 b0 fu  n x0 x1 x2 σ = some (v, τ) → tX p l e s m args below meth c 3 0 0 D aC b0 σ0 (.inl (some (.int v))) τ 2 [(0, .ref (x0)), (1, .int (x1)), (2, .int (x2))] [] σ := by
  intro n
  induction n with
  | zero => intro x0 x1 x2 σ hm; unfold L_X10_isHeld_2 at hm; cases hm
  | succ n ih =>
    intro x0 x1 x2 σ hm
    unfold L_X10_isHeld_2 at hm
    obtain ⟨rc2, hrc⟩ : ∃ z, z = L_X10_isHeld_2 b0 fu  n := ⟨_, rfl⟩
    replace hm := ltb_e hm hrc
    rw [← hrc] at ih
    have hrc2 := ih
    clear ih hrc
    refine zx_iload_n C dX10_isHeld_2 2 rfl ?_
    refine zx_bipush (v := 16) C dX10_isHeld_3 (by decide) ?_
    refine zx_icmp_ge C 26 dX10_isHeld_5 (by decide) (fun c1 => ?_) (fun c1 => ?_)
    · replace hm := ip_e hm c1
      refine zx_iconst (v := 0) C dX10_isHeld_26 (by decide) ?_
      obtain ⟨rfl, rfl⟩ := ret_e hm
      exact zx_zret C rfl (by decide) rfl rfl dX10_isHeld_27
    · replace hm := in_e hm c1
      refine zx_aload_n C dX10_isHeld_8 0 rfl ?_
      obtain ⟨k2, i3, hm⟩ := ckO_e hm
      obtain ⟨a4, h5, hm⟩ := osm_e hm
      refine zx_get (j := 9) C tC_10 k2 i3 ⟨by decide, Or.inl W_2_222⟩ dX10_isHeld_9 (.ref a4) (rf_s h5) ?_
      refine zx_iload_n C dX10_isHeld_12 2 rfl ?_
      obtain ⟨n8, k6, i7, hm⟩ := ckR_e hm
      obtain ⟨h9, hm⟩ := ckI_e hm
      refine zx_iald C k6 i7 h9 dX10_isHeld_13 ?_
      refine zx_iload_n C dX10_isHeld_14 1 rfl ?_
      refine zx_icmp_ne C 20 dX10_isHeld_15 (by decide) (fun c10 => ?_) (fun c10 => ?_)
      · replace hm := in_e hm c10
        obtain ⟨y11, hy11⟩ : ∃ z : Int32, z = (x2) + Int32.ofInt 1 := ⟨_, rfl⟩
        replace hm := ltb_e hm hy11
        refine zx_iinc C [(2, .int (y11)), (0, .ref (x0)), (1, .int (x1))] dX10_isHeld_20 2 rfl hy11.symm (by decide) rfl ?_
        refine zx_goto C 2 dX10_isHeld_23 (by decide) ?_
        exact zx_lv [1, 2, 0] [(0, .ref (x0)), (1, .int (x1)), (2, .int (y11))] rfl (hrc2 _ _ _ _ hm)
      · replace hm := ip_e hm c10
        refine zx_iconst (v := 1) C dX10_isHeld_18 (by decide) ?_
        obtain ⟨rfl, rfl⟩ := ret_e hm
        exact zx_zret C rfl (by decide) rfl rfl dX10_isHeld_19
set_option maxRecDepth 100000 in
set_option maxHeartbeats 1000000 in
theorem c_X10_isHeld {l : Launch} {D : va_G} {aC : Nat → ClassId} {b0 fu : Nat} {a0 : Nat} {p0 : Int32} {σ τ : tM} {v : Int32} (hm : m_X10_isHeld b0 fu a0 p0 σ = some (v, τ)) : tMt l D aC b0 yX10_isHeld (Cond.code yX10_isHeld cX10_isHeld 3 (some .boolean)) 0 0 [.ref (a0), .int (p0)] σ (.inl (some (.int v))) τ := by
  unfold m_X10_isHeld at hm
  obtain ⟨hg, hm⟩ := grw_e hm
  refine tMt_of (n := 0) rfl (Nat.le_of_ble_eq_true rfl) hg ?_
  intro p e s m below meth c C htab hin
  refine zx_lv [0, 1] [(0, .ref (a0)), (1, .int (p0))] rfl ?_
  refine zx_iconst (v := 0) C dX10_isHeld_0 (by decide) ?_
  refine zx_istore_n C [(2, .int (0)), (0, .ref (a0)), (1, .int (p0))] dX10_isHeld_1 rfl (by decide) rfl ?_
  exact zx_lv [1, 2, 0] [(0, .ref (a0)), (1, .int (p0)), (2, .int (0))] rfl (l_X10_isHeld_2 C htab hin  _ _ _ _ _ hm)
abbrev cX10_fileOf : ByteArray := prog_1_method_21_code
def yX10_fileOf : MethodName := ⟨"SyncTree", "fileOf", "(I)I"⟩
theorem Y_X10_fileOf : tY yX10_fileOf cX10_fileOf 2 (some .int) 1 := ⟨W_5_141, W_1_1, ⟨by decide +kernel, by decide +kernel⟩, by decide +kernel⟩
theorem dX10_fileOf_0 : decode cX10_fileOf 0 = .ok (.iload_n 1, 1) := by decide +kernel
theorem dX10_fileOf_1 : decode cX10_fileOf 1 = .ok (.ifCond .lt 18, 3) := by decide +kernel
theorem dX10_fileOf_4 : decode cX10_fileOf 4 = .ok (.iload_n 1, 1) := by decide +kernel
theorem dX10_fileOf_5 : decode cX10_fileOf 5 = .ok (.bipush 16, 2) := by decide +kernel
theorem dX10_fileOf_7 : decode cX10_fileOf 7 = .ok (.if_icmp .ge 12, 3) := by decide +kernel
theorem dX10_fileOf_10 : decode cX10_fileOf 10 = .ok (.aload_n 0, 1) := by decide +kernel
theorem dX10_fileOf_11 : decode cX10_fileOf 11 = .ok (.getfield 76, 3) := by decide +kernel
theorem dX10_fileOf_14 : decode cX10_fileOf 14 = .ok (.iload_n 1, 1) := by decide +kernel
theorem dX10_fileOf_15 : decode cX10_fileOf 15 = .ok (.iaload, 1) := by decide +kernel
theorem dX10_fileOf_16 : decode cX10_fileOf 16 = .ok (.ifCond .ge 8, 3) := by decide +kernel
theorem dX10_fileOf_19 : decode cX10_fileOf 19 = .ok (.bipush (-9), 2) := by decide +kernel
theorem dX10_fileOf_21 : decode cX10_fileOf 21 = .ok (.goto 9, 3) := by decide +kernel
theorem dX10_fileOf_24 : decode cX10_fileOf 24 = .ok (.aload_n 0, 1) := by decide +kernel
theorem dX10_fileOf_25 : decode cX10_fileOf 25 = .ok (.getfield 76, 3) := by decide +kernel
theorem dX10_fileOf_28 : decode cX10_fileOf 28 = .ok (.iload_n 1, 1) := by decide +kernel
theorem dX10_fileOf_29 : decode cX10_fileOf 29 = .ok (.iaload, 1) := by decide +kernel
theorem dX10_fileOf_30 : decode cX10_fileOf 30 = .ok (.ireturn, 1) := by decide +kernel
def J_X10_fileOf_30 (b0 fu : Nat)  (s0 : Int32) (σ : tM) : Option ((Int32) × tM) := some (s0, σ)
def J_X10_fileOf_19 (b0 fu : Nat)   (σ : tM) : Option ((Int32) × tM) := J_X10_fileOf_30 b0 fu   ((-9)) (σ)
def m_X10_fileOf (b0 fu : Nat) (a0 : Nat) (p0 : Int32) (σ : tM) : Option ((Int32) × tM) := grw σ (if (p0) < (0) then J_X10_fileOf_19 b0 fu    (σ) else if (16) ≤ (p0) then J_X10_fileOf_19 b0 fu    (σ) else ckO b0 (σ) (a0) 10 (osm (tA (σ) (a0) 9) (fun a5 => ckR b0 (σ) (a5) 0 (fun n9 => ckI (p0) (n9) (if (0) ≤ (tI (σ) (a5) ((p0).toNatClampNeg)) then osm (tA (σ) (a0) 9) (fun a12 => ckR b0 (σ) (a12) 0 (fun n16 => ckI (p0) (n16) (J_X10_fileOf_30 b0 fu   (tI (σ) (a12) ((p0).toNatClampNeg)) (σ)))) else J_X10_fileOf_19 b0 fu    (σ))))))
set_option maxRecDepth 100000 in
set_option maxHeartbeats 1000000 in
theorem j_X10_fileOf_30 {p : Program} {l : Launch} {e : Env} {s : State} {m : MethodId} {args : Array Value} {below : List Frame} {meth : Method} {c : Code} {D : va_G} {aC : Nat → ClassId} {b0 fu : Nat} {σ0 τ : tM} {v : Int32}  (C : tCx p s m args meth c yX10_fileOf.cls cX10_fileOf 2 (some .int) D aC b0 σ0) (htab : ∀ x ∈ c.exceptionTable.toList, False) (hin : meth.name = yX10_fileOf.name)  {s0 : Int32} {σ : tM} (hm : J_X10_fileOf_30 b0 fu  s0 σ = some (v, τ)) : tX p l e s m args below meth c 2 0 0 D aC b0 σ0 (.inl (some (.int v))) τ 30 [] [.int (s0)] σ := by
  unfold J_X10_fileOf_30 at hm
  obtain ⟨rfl, rfl⟩ := ret_e hm
  exact zx_iret C rfl rfl rfl dX10_fileOf_30
set_option maxRecDepth 100000 in
set_option maxHeartbeats 1000000 in
theorem j_X10_fileOf_19 {p : Program} {l : Launch} {e : Env} {s : State} {m : MethodId} {args : Array Value} {below : List Frame} {meth : Method} {c : Code} {D : va_G} {aC : Nat → ClassId} {b0 fu : Nat} {σ0 τ : tM} {v : Int32}  (C : tCx p s m args meth c yX10_fileOf.cls cX10_fileOf 2 (some .int) D aC b0 σ0) (htab : ∀ x ∈ c.exceptionTable.toList, False) (hin : meth.name = yX10_fileOf.name)   {σ : tM} (hm : J_X10_fileOf_19 b0 fu   σ = some (v, τ)) : tX p l e s m args below meth c 2 0 0 D aC b0 σ0 (.inl (some (.int v))) τ 19 [] [] σ := by
  unfold J_X10_fileOf_19 at hm
  refine zx_bipush (v := (-9)) C dX10_fileOf_19 (by decide) ?_
  refine zx_goto C 30 dX10_fileOf_21 (by decide) ?_
  exact zx_lv [] [] rfl (j_X10_fileOf_30 C htab hin    hm)
set_option maxRecDepth 100000 in
set_option maxHeartbeats 1000000 in
theorem c_X10_fileOf {l : Launch} {D : va_G} {aC : Nat → ClassId} {b0 fu : Nat} {a0 : Nat} {p0 : Int32} {σ τ : tM} {v : Int32} (hm : m_X10_fileOf b0 fu a0 p0 σ = some (v, τ)) : tMt l D aC b0 yX10_fileOf (Cond.code yX10_fileOf cX10_fileOf 2 (some .int)) 0 0 [.ref (a0), .int (p0)] σ (.inl (some (.int v))) τ := by
  unfold m_X10_fileOf at hm
  obtain ⟨hg, hm⟩ := grw_e hm
  refine tMt_of (n := 0) rfl (Nat.le_of_ble_eq_true rfl) hg ?_
  intro p e s m below meth c C htab hin
  refine zx_lv [0, 1] [(0, .ref (a0)), (1, .int (p0))] rfl ?_
  refine zx_iload_n C dX10_fileOf_0 1 rfl ?_
  refine zx_if_lt C 19 dX10_fileOf_1 (by decide) (fun c1 => ?_) (fun c1 => ?_)
  · replace hm := ip_e hm c1
    exact zx_lv [] [] rfl (j_X10_fileOf_19 C htab hin    hm)
  · replace hm := in_e hm c1
    refine zx_iload_n C dX10_fileOf_4 1 rfl ?_
    refine zx_bipush (v := 16) C dX10_fileOf_5 (by decide) ?_
    refine zx_icmp_ge C 19 dX10_fileOf_7 (by decide) (fun c2 => ?_) (fun c2 => ?_)
    · replace hm := ip_e hm c2
      exact zx_lv [] [] rfl (j_X10_fileOf_19 C htab hin    hm)
    · replace hm := in_e hm c2
      refine zx_aload_n C dX10_fileOf_10 0 rfl ?_
      obtain ⟨k3, i4, hm⟩ := ckO_e hm
      obtain ⟨a5, h6, hm⟩ := osm_e hm
      refine zx_get (j := 9) C tC_10 k3 i4 ⟨by decide, Or.inl W_2_222⟩ dX10_fileOf_11 (.ref a5) (rf_s h6) ?_
      refine zx_iload_n C dX10_fileOf_14 1 rfl ?_
      obtain ⟨n9, k7, i8, hm⟩ := ckR_e hm
      obtain ⟨h10, hm⟩ := ckI_e hm
      refine zx_iald C k7 i8 h10 dX10_fileOf_15 ?_
      refine zx_if_ge C 24 dX10_fileOf_16 (by decide) (fun c11 => ?_) (fun c11 => ?_)
      · replace hm := ip_e hm c11
        refine zx_aload_n C dX10_fileOf_24 0 rfl ?_
        obtain ⟨a12, h13, hm⟩ := osm_e hm
        refine zx_get (j := 9) C tC_10 k3 i4 ⟨by decide, Or.inl W_2_222⟩ dX10_fileOf_25 (.ref a12) (rf_s h13) ?_
        refine zx_iload_n C dX10_fileOf_28 1 rfl ?_
        obtain ⟨n16, k14, i15, hm⟩ := ckR_e hm
        obtain ⟨h17, hm⟩ := ckI_e hm
        refine zx_iald C k14 i15 h17 dX10_fileOf_29 ?_
        exact zx_lv [] [] rfl (j_X10_fileOf_30 C htab hin    hm)
      · replace hm := in_e hm c11
        exact zx_lv [] [] rfl (j_X10_fileOf_19 C htab hin    hm)
abbrev cX10_cut : ByteArray := prog_1_method_41_code
def yX10_cut : MethodName := ⟨"SyncTree", "cut", "(I)I"⟩
theorem Y_X10_cut : tY yX10_cut cX10_cut 2 (some .int) 1 := ⟨W_3_41, W_1_1, ⟨by decide +kernel, by decide +kernel⟩, by decide +kernel⟩
theorem dX10_cut_0 : decode cX10_cut 0 = .ok (.iload_n 1, 1) := by decide +kernel
theorem dX10_cut_1 : decode cX10_cut 1 = .ok (.iconst (-1), 1) := by decide +kernel
theorem dX10_cut_2 : decode cX10_cut 2 = .ok (.if_icmp .ge 6, 3) := by decide +kernel
theorem dX10_cut_5 : decode cX10_cut 5 = .ok (.bipush (-9), 2) := by decide +kernel
theorem dX10_cut_7 : decode cX10_cut 7 = .ok (.ireturn, 1) := by decide +kernel
theorem dX10_cut_8 : decode cX10_cut 8 = .ok (.aload_n 0, 1) := by decide +kernel
theorem dX10_cut_9 : decode cX10_cut 9 = .ok (.getfield 12, 3) := by decide +kernel
theorem dX10_cut_12 : decode cX10_cut 12 = .ok (.iload_n 1, 1) := by decide +kernel
theorem dX10_cut_13 : decode cX10_cut 13 = .ok (.putfield 343, 3) := by decide +kernel
theorem dX10_cut_16 : decode cX10_cut 16 = .ok (.iload_n 1, 1) := by decide +kernel
theorem dX10_cut_17 : decode cX10_cut 17 = .ok (.ireturn, 1) := by decide +kernel
def m_X10_cut (b0 fu : Nat) (a0 : Nat) (p0 : Int32) (σ : tM) : Option ((Int32) × tM) := grw σ (if ((-1)) ≤ (p0) then ckO b0 (σ) (a0) 10 (osm (tA (σ) (a0) 0) (fun a4 => ckO b0 (σ) (a4) 0 (some (p0, sI (σ) (a4) 13 (p0))))) else some ((-9), σ))
set_option maxRecDepth 100000 in
set_option maxHeartbeats 1000000 in
theorem c_X10_cut {l : Launch} {D : va_G} {aC : Nat → ClassId} {b0 fu : Nat} {a0 : Nat} {p0 : Int32} {σ τ : tM} {v : Int32} (hm : m_X10_cut b0 fu a0 p0 σ = some (v, τ)) : tMt l D aC b0 yX10_cut (Cond.code yX10_cut cX10_cut 2 (some .int)) 0 0 [.ref (a0), .int (p0)] σ (.inl (some (.int v))) τ := by
  unfold m_X10_cut at hm
  obtain ⟨hg, hm⟩ := grw_e hm
  refine tMt_of (n := 0) rfl (Nat.le_of_ble_eq_true rfl) hg ?_
  intro p e s m below meth c C htab hin
  refine zx_lv [0, 1] [(0, .ref (a0)), (1, .int (p0))] rfl ?_
  refine zx_iload_n C dX10_cut_0 1 rfl ?_
  refine zx_iconst (v := (-1)) C dX10_cut_1 (by decide) ?_
  refine zx_icmp_ge C 8 dX10_cut_2 (by decide) (fun c1 => ?_) (fun c1 => ?_)
  · replace hm := ip_e hm c1
    refine zx_aload_n C dX10_cut_8 0 rfl ?_
    obtain ⟨k2, i3, hm⟩ := ckO_e hm
    obtain ⟨a4, h5, hm⟩ := osm_e hm
    refine zx_get (j := 0) C tC_10 k2 i3 ⟨by decide, Or.inl W_2_213⟩ dX10_cut_9 (.ref a4) (rf_s h5) ?_
    refine zx_iload_n C dX10_cut_12 1 rfl ?_
    obtain ⟨k6, i7, hm⟩ := ckO_e hm
    refine zx_put (j := 13) (ρ := sI (σ) (a4) 13 (p0)) C tC_0 k6 i7 ⟨by decide, Or.inr ⟨_, W_1_51⟩⟩ rfl rfl rfl (sI_ok (fun _ => rfl)) dX10_cut_13 ?_
    refine zx_iload_n C dX10_cut_16 1 rfl ?_
    obtain ⟨rfl, rfl⟩ := ret_e hm
    exact zx_iret C rfl rfl rfl dX10_cut_17
  · replace hm := in_e hm c1
    refine zx_bipush (v := (-9)) C dX10_cut_5 (by decide) ?_
    obtain ⟨rfl, rfl⟩ := ret_e hm
    exact zx_iret C rfl rfl rfl dX10_cut_7
abbrev cX10_choose : ByteArray := prog_1_method_43_code
def yX10_choose : MethodName := ⟨"SyncTree", "choose", "(II)I"⟩
theorem Y_X10_choose : tY yX10_choose cX10_choose 3 (some .int) 2 := ⟨W_3_45, W_1_1, ⟨by decide +kernel, by decide +kernel⟩, by decide +kernel⟩
theorem dX10_choose_0 : decode cX10_choose 0 = .ok (.aload_n 0, 1) := by decide +kernel
theorem dX10_choose_1 : decode cX10_choose 1 = .ok (.getfield 12, 3) := by decide +kernel
theorem dX10_choose_4 : decode cX10_choose 4 = .ok (.getfield 352, 3) := by decide +kernel
theorem dX10_choose_7 : decode cX10_choose 7 = .ok (.ifCond .ne 19, 3) := by decide +kernel
theorem dX10_choose_10 : decode cX10_choose 10 = .ok (.iload_n 2, 1) := by decide +kernel
theorem dX10_choose_11 : decode cX10_choose 11 = .ok (.ifCond .lt 15, 3) := by decide +kernel
theorem dX10_choose_14 : decode cX10_choose 14 = .ok (.iload_n 2, 1) := by decide +kernel
theorem dX10_choose_15 : decode cX10_choose 15 = .ok (.aload_n 0, 1) := by decide +kernel
theorem dX10_choose_16 : decode cX10_choose 16 = .ok (.getfield 12, 3) := by decide +kernel
theorem dX10_choose_19 : decode cX10_choose 19 = .ok (.iload_n 1, 1) := by decide +kernel
theorem dX10_choose_20 : decode cX10_choose 20 = .ok (.invokevirtual 356, 3) := by decide +kernel
theorem dX10_choose_23 : decode cX10_choose 23 = .ok (.if_icmp .le 6, 3) := by decide +kernel
theorem dX10_choose_26 : decode cX10_choose 26 = .ok (.bipush (-9), 2) := by decide +kernel
theorem dX10_choose_28 : decode cX10_choose 28 = .ok (.ireturn, 1) := by decide +kernel
theorem dX10_choose_29 : decode cX10_choose 29 = .ok (.aload_n 0, 1) := by decide +kernel
theorem dX10_choose_30 : decode cX10_choose 30 = .ok (.getfield 12, 3) := by decide +kernel
theorem dX10_choose_33 : decode cX10_choose 33 = .ok (.iload_n 1, 1) := by decide +kernel
theorem dX10_choose_34 : decode cX10_choose 34 = .ok (.iload_n 2, 1) := by decide +kernel
theorem dX10_choose_35 : decode cX10_choose 35 = .ok (.invokevirtual 359, 3) := by decide +kernel
theorem dX10_choose_38 : decode cX10_choose 38 = .ok (.aload_n 0, 1) := by decide +kernel
theorem dX10_choose_39 : decode cX10_choose 39 = .ok (.getfield 12, 3) := by decide +kernel
theorem dX10_choose_42 : decode cX10_choose 42 = .ok (.iload_n 1, 1) := by decide +kernel
theorem dX10_choose_43 : decode cX10_choose 43 = .ok (.invokevirtual 356, 3) := by decide +kernel
theorem dX10_choose_46 : decode cX10_choose 46 = .ok (.ireturn, 1) := by decide +kernel
def J_X10_choose_26 (b0 fu : Nat)   (σ : tM) : Option ((Int32) × tM) := some ((-9), σ)
def m_X10_choose (b0 fu : Nat) (a0 : Nat) (p0 : Int32) (p1 : Int32) (σ : tM) : Option ((Int32) × tM) := grw σ (ckO b0 (σ) (a0) 10 (osm (tA (σ) (a0) 0) (fun a3 => ckO b0 (σ) (a3) 0 (if (tI (σ) (a3) 14) = (0) then if (p1) < (0) then J_X10_choose_26 b0 fu    (σ) else osm (tA (σ) (a0) 0) (fun a9 => ckO b0 (σ) (a9) 0 (cll (m_X0_countOf b0 fu (a9) (p0) (σ)) (fun v13 ρ14 => if (p1) ≤ (v13) then ckO b0 (ρ14) (a0) 10 (osm (tA (ρ14) (a0) 0) (fun a19 => ckO b0 (ρ14) (a19) 0 (cll (m_X0_setChoice b0 fu (a19) (p0) (p1) (ρ14)) (fun v23 ρ24 => ckO b0 (ρ24) (a0) 10 (osm (tA (ρ24) (a0) 0) (fun a28 => ckO b0 (ρ24) (a28) 0 (cll (m_X0_countOf b0 fu (a28) (p0) (ρ24)) (fun v32 ρ33 => some (v32, ρ33))))))))) else J_X10_choose_26 b0 fu    (ρ14)))) else J_X10_choose_26 b0 fu    (σ)))))
set_option maxRecDepth 100000 in
set_option maxHeartbeats 1000000 in
theorem j_X10_choose_26 {p : Program} {l : Launch} {e : Env} {s : State} {m : MethodId} {args : Array Value} {below : List Frame} {meth : Method} {c : Code} {D : va_G} {aC : Nat → ClassId} {b0 fu : Nat} {σ0 τ : tM} {v : Int32}  (C : tCx p s m args meth c yX10_choose.cls cX10_choose 3 (some .int) D aC b0 σ0) (htab : ∀ x ∈ c.exceptionTable.toList, False) (hin : meth.name = yX10_choose.name)   {σ : tM} (hm : J_X10_choose_26 b0 fu   σ = some (v, τ)) : tX p l e s m args below meth c 3 1 22 D aC b0 σ0 (.inl (some (.int v))) τ 26 [] [] σ := by
  unfold J_X10_choose_26 at hm
  refine zx_bipush (v := (-9)) C dX10_choose_26 (by decide) ?_
  obtain ⟨rfl, rfl⟩ := ret_e hm
  exact zx_iret C rfl rfl rfl dX10_choose_28
set_option maxRecDepth 100000 in
set_option maxHeartbeats 1000000 in
theorem c_X10_choose {l : Launch} {D : va_G} {aC : Nat → ClassId} {b0 fu : Nat} {a0 : Nat} {p0 : Int32} {p1 : Int32} {σ τ : tM} {v : Int32} (hm : m_X10_choose b0 fu a0 p0 p1 σ = some (v, τ)) : tMt l D aC b0 yX10_choose (Cond.code yX10_choose cX10_choose 3 (some .int)) 1 22 [.ref (a0), .int (p0), .int (p1)] σ (.inl (some (.int v))) τ := by
  unfold m_X10_choose at hm
  obtain ⟨hg, hm⟩ := grw_e hm
  refine tMt_of (n := 0) rfl (Nat.le_of_ble_eq_true rfl) hg ?_
  intro p e s m below meth c C htab hin
  refine zx_lv [0, 1, 2] [(0, .ref (a0)), (1, .int (p0)), (2, .int (p1))] rfl ?_
  refine zx_aload_n C dX10_choose_0 0 rfl ?_
  obtain ⟨k1, i2, hm⟩ := ckO_e hm
  obtain ⟨a3, h4, hm⟩ := osm_e hm
  refine zx_get (j := 0) C tC_10 k1 i2 ⟨by decide, Or.inl W_2_213⟩ dX10_choose_1 (.ref a3) (rf_s h4) ?_
  obtain ⟨k5, i6, hm⟩ := ckO_e hm
  refine zx_get (j := 14) C tC_0 k5 i6 ⟨by decide, Or.inr ⟨_, W_1_53⟩⟩ dX10_choose_4 (.int (tI (σ) (a3) 14)) rfl ?_
  refine zx_if_ne C 26 dX10_choose_7 (by decide) (fun c7 => ?_) (fun c7 => ?_)
  · replace hm := in_e hm c7
    exact zx_lv [] [] rfl (j_X10_choose_26 C htab hin    hm)
  · replace hm := ip_e hm c7
    refine zx_iload_n C dX10_choose_10 2 rfl ?_
    refine zx_if_lt C 26 dX10_choose_11 (by decide) (fun c8 => ?_) (fun c8 => ?_)
    · replace hm := ip_e hm c8
      exact zx_lv [] [] rfl (j_X10_choose_26 C htab hin    hm)
    · replace hm := in_e hm c8
      refine zx_iload_n C dX10_choose_14 2 rfl ?_
      refine zx_aload_n C dX10_choose_15 0 rfl ?_
      obtain ⟨a9, h10, hm⟩ := osm_e hm
      refine zx_get (j := 0) C tC_10 k1 i2 ⟨by decide, Or.inl W_2_213⟩ dX10_choose_16 (.ref a9) (rf_s h10) ?_
      refine zx_iload_n C dX10_choose_19 1 rfl ?_
      obtain ⟨k11, i12, hm⟩ := ckO_e hm
      obtain ⟨v13, ρ14, h15, hm⟩ := cll_e hm
      refine zx_callV (σ := σ) C [.int (p0)] tC_0 k11 i12 Y_X0_countOf W_3_46 W_3_47 W_3_48 (c_X0_countOf h15) (by decide) (by decide) rfl (Nat.le_of_ble_eq_true rfl) dX10_choose_20 rfl ?_
      refine zx_icmp_le C 29 dX10_choose_23 (by decide) (fun c16 => ?_) (fun c16 => ?_)
      · replace hm := ip_e hm c16
        refine zx_aload_n C dX10_choose_29 0 rfl ?_
        obtain ⟨k17, i18, hm⟩ := ckO_e hm
        obtain ⟨a19, h20, hm⟩ := osm_e hm
        refine zx_get (j := 0) C tC_10 k17 i18 ⟨by decide, Or.inl W_2_213⟩ dX10_choose_30 (.ref a19) (rf_s h20) ?_
        refine zx_iload_n C dX10_choose_33 1 rfl ?_
        refine zx_iload_n C dX10_choose_34 2 rfl ?_
        obtain ⟨k21, i22, hm⟩ := ckO_e hm
        obtain ⟨v23, ρ24, h25, hm⟩ := cll_e hm
        refine zx_callV (σ := ρ14) C [.int (p0), .int (p1)] tC_0 k21 i22 Y_X0_setChoice W_3_50 W_3_51 W_3_52 (c_X0_setChoice h25) (by decide) (by decide) rfl (Nat.le_of_ble_eq_true rfl) dX10_choose_35 rfl ?_
        refine zx_aload_n C dX10_choose_38 0 rfl ?_
        obtain ⟨k26, i27, hm⟩ := ckO_e hm
        obtain ⟨a28, h29, hm⟩ := osm_e hm
        refine zx_get (j := 0) C tC_10 k26 i27 ⟨by decide, Or.inl W_2_213⟩ dX10_choose_39 (.ref a28) (rf_s h29) ?_
        refine zx_iload_n C dX10_choose_42 1 rfl ?_
        obtain ⟨k30, i31, hm⟩ := ckO_e hm
        obtain ⟨v32, ρ33, h34, hm⟩ := cll_e hm
        refine zx_callV (σ := ρ24) C [.int (p0)] tC_0 k30 i31 Y_X0_countOf W_3_46 W_3_47 W_3_48 (c_X0_countOf h34) (by decide) (by decide) rfl (Nat.le_of_ble_eq_true rfl) dX10_choose_43 rfl ?_
        obtain ⟨rfl, rfl⟩ := ret_e hm
        exact zx_iret C rfl rfl rfl dX10_choose_46
      · replace hm := in_e hm c16
        exact zx_lv [] [] rfl (j_X10_choose_26 C htab hin    hm)
abbrev cX10_shuffle : ByteArray := prog_1_method_44_code
def yX10_shuffle : MethodName := ⟨"SyncTree", "shuffle", "(J)I"⟩
theorem Y_X10_shuffle : tY yX10_shuffle cX10_shuffle 3 (some .int) 1 := ⟨W_3_57, W_1_1, ⟨by decide +kernel, by decide +kernel⟩, by decide +kernel⟩
theorem dX10_shuffle_0 : decode cX10_shuffle 0 = .ok (.aload_n 0, 1) := by decide +kernel
theorem dX10_shuffle_1 : decode cX10_shuffle 1 = .ok (.getfield 12, 3) := by decide +kernel
theorem dX10_shuffle_4 : decode cX10_shuffle 4 = .ok (.getfield 352, 3) := by decide +kernel
theorem dX10_shuffle_7 : decode cX10_shuffle 7 = .ok (.ifCond .eq 8, 3) := by decide +kernel
theorem dX10_shuffle_10 : decode cX10_shuffle 10 = .ok (.bipush (-9), 2) := by decide +kernel
theorem dX10_shuffle_12 : decode cX10_shuffle 12 = .ok (.goto 11, 3) := by decide +kernel
theorem dX10_shuffle_15 : decode cX10_shuffle 15 = .ok (.aload_n 0, 1) := by decide +kernel
theorem dX10_shuffle_16 : decode cX10_shuffle 16 = .ok (.getfield 12, 3) := by decide +kernel
theorem dX10_shuffle_19 : decode cX10_shuffle 19 = .ok (.lload_n 1, 1) := by decide +kernel
theorem dX10_shuffle_20 : decode cX10_shuffle 20 = .ok (.invokevirtual 362, 3) := by decide +kernel
theorem dX10_shuffle_23 : decode cX10_shuffle 23 = .ok (.ireturn, 1) := by decide +kernel
def J_X10_shuffle_23 (b0 fu : Nat)  (s0 : Int32) (σ : tM) : Option ((Int32) × tM) := some (s0, σ)
def m_X10_shuffle (b0 fu : Nat) (a0 : Nat) (p0 : Int64) (σ : tM) : Option ((Int32) × tM) := grw σ (ckO b0 (σ) (a0) 10 (osm (tA (σ) (a0) 0) (fun a3 => ckO b0 (σ) (a3) 0 (if (tI (σ) (a3) 14) = (0) then osm (tA (σ) (a0) 0) (fun a8 => ckO b0 (σ) (a8) 0 (cll (m_X0_chooseAll b0 fu (a8) (p0) (σ)) (fun v12 ρ13 => J_X10_shuffle_23 b0 fu   (v12) (ρ13)))) else J_X10_shuffle_23 b0 fu   ((-9)) (σ)))))
set_option maxRecDepth 100000 in
set_option maxHeartbeats 1000000 in
theorem j_X10_shuffle_23 {p : Program} {l : Launch} {e : Env} {s : State} {m : MethodId} {args : Array Value} {below : List Frame} {meth : Method} {c : Code} {D : va_G} {aC : Nat → ClassId} {b0 fu : Nat} {σ0 τ : tM} {v : Int32}  (C : tCx p s m args meth c yX10_shuffle.cls cX10_shuffle 3 (some .int) D aC b0 σ0) (htab : ∀ x ∈ c.exceptionTable.toList, False) (hin : meth.name = yX10_shuffle.name)  {s0 : Int32} {σ : tM} (hm : J_X10_shuffle_23 b0 fu  s0 σ = some (v, τ)) : tX p l e s m args below meth c 3 1 25 D aC b0 σ0 (.inl (some (.int v))) τ 23 [] [.int (s0)] σ := by
  unfold J_X10_shuffle_23 at hm
  obtain ⟨rfl, rfl⟩ := ret_e hm
  exact zx_iret C rfl rfl rfl dX10_shuffle_23
set_option maxRecDepth 100000 in
set_option maxHeartbeats 1000000 in
theorem c_X10_shuffle {l : Launch} {D : va_G} {aC : Nat → ClassId} {b0 fu : Nat} {a0 : Nat} {p0 : Int64} {σ τ : tM} {v : Int32} (hm : m_X10_shuffle b0 fu a0 p0 σ = some (v, τ)) : tMt l D aC b0 yX10_shuffle (Cond.code yX10_shuffle cX10_shuffle 3 (some .int)) 1 25 [.ref (a0), .long (p0)] σ (.inl (some (.int v))) τ := by
  unfold m_X10_shuffle at hm
  obtain ⟨hg, hm⟩ := grw_e hm
  refine tMt_of (n := 0) rfl (Nat.le_of_ble_eq_true rfl) hg ?_
  intro p e s m below meth c C htab hin
  refine zx_lv [0, 1] [(0, .ref (a0)), (1, .long (p0))] rfl ?_
  refine zx_aload_n C dX10_shuffle_0 0 rfl ?_
  obtain ⟨k1, i2, hm⟩ := ckO_e hm
  obtain ⟨a3, h4, hm⟩ := osm_e hm
  refine zx_get (j := 0) C tC_10 k1 i2 ⟨by decide, Or.inl W_2_213⟩ dX10_shuffle_1 (.ref a3) (rf_s h4) ?_
  obtain ⟨k5, i6, hm⟩ := ckO_e hm
  refine zx_get (j := 14) C tC_0 k5 i6 ⟨by decide, Or.inr ⟨_, W_1_53⟩⟩ dX10_shuffle_4 (.int (tI (σ) (a3) 14)) rfl ?_
  refine zx_if_eq C 15 dX10_shuffle_7 (by decide) (fun c7 => ?_) (fun c7 => ?_)
  · replace hm := ip_e hm c7
    refine zx_aload_n C dX10_shuffle_15 0 rfl ?_
    obtain ⟨a8, h9, hm⟩ := osm_e hm
    refine zx_get (j := 0) C tC_10 k1 i2 ⟨by decide, Or.inl W_2_213⟩ dX10_shuffle_16 (.ref a8) (rf_s h9) ?_
    refine zx_lload_n C dX10_shuffle_19 1 rfl ?_
    obtain ⟨k10, i11, hm⟩ := ckO_e hm
    obtain ⟨v12, ρ13, h14, hm⟩ := cll_e hm
    refine zx_callV (σ := σ) C [.long (p0)] tC_0 k10 i11 Y_X0_chooseAll W_3_58 W_3_59 W_3_60 (c_X0_chooseAll h14) (by decide) (by decide) rfl (Nat.le_of_ble_eq_true rfl) dX10_shuffle_20 rfl ?_
    exact zx_lv [] [] rfl (j_X10_shuffle_23 C htab hin    hm)
  · replace hm := in_e hm c7
    refine zx_bipush (v := (-9)) C dX10_shuffle_10 (by decide) ?_
    refine zx_goto C 23 dX10_shuffle_12 (by decide) ?_
    exact zx_lv [] [] rfl (j_X10_shuffle_23 C htab hin    hm)
abbrev cX10_versions : ByteArray := prog_1_method_46_code
def yX10_versions : MethodName := ⟨"SyncTree", "versions", "(I)I"⟩
theorem Y_X10_versions : tY yX10_versions cX10_versions 3 (some .int) 1 := ⟨W_3_66, W_1_1, ⟨by decide +kernel, by decide +kernel⟩, by decide +kernel⟩
theorem dX10_versions_0 : decode cX10_versions 0 = .ok (.aload_n 0, 1) := by decide +kernel
theorem dX10_versions_1 : decode cX10_versions 1 = .ok (.getfield 12, 3) := by decide +kernel
theorem dX10_versions_4 : decode cX10_versions 4 = .ok (.iload_n 1, 1) := by decide +kernel
theorem dX10_versions_5 : decode cX10_versions 5 = .ok (.invokevirtual 356, 3) := by decide +kernel
theorem dX10_versions_8 : decode cX10_versions 8 = .ok (.istore_n 2, 1) := by decide +kernel
theorem dX10_versions_9 : decode cX10_versions 9 = .ok (.iload_n 2, 1) := by decide +kernel
theorem dX10_versions_10 : decode cX10_versions 10 = .ok (.ifCond .ge 8, 3) := by decide +kernel
theorem dX10_versions_13 : decode cX10_versions 13 = .ok (.bipush (-9), 2) := by decide +kernel
theorem dX10_versions_15 : decode cX10_versions 15 = .ok (.goto 4, 3) := by decide +kernel
theorem dX10_versions_18 : decode cX10_versions 18 = .ok (.iload_n 2, 1) := by decide +kernel
theorem dX10_versions_19 : decode cX10_versions 19 = .ok (.ireturn, 1) := by decide +kernel
def J_X10_versions_19 (b0 fu : Nat)  (s0 : Int32) (σ : tM) : Option ((Int32) × tM) := some (s0, σ)
def m_X10_versions (b0 fu : Nat) (a0 : Nat) (p0 : Int32) (σ : tM) : Option ((Int32) × tM) := grw σ (ckO b0 (σ) (a0) 10 (osm (tA (σ) (a0) 0) (fun a3 => ckO b0 (σ) (a3) 0 (cll (m_X0_countOf b0 fu (a3) (p0) (σ)) (fun v7 ρ8 => if (0) ≤ (v7) then J_X10_versions_19 b0 fu   (v7) (ρ8) else J_X10_versions_19 b0 fu   ((-9)) (ρ8))))))
set_option maxRecDepth 100000 in
set_option maxHeartbeats 1000000 in
theorem j_X10_versions_19 {p : Program} {l : Launch} {e : Env} {s : State} {m : MethodId} {args : Array Value} {below : List Frame} {meth : Method} {c : Code} {D : va_G} {aC : Nat → ClassId} {b0 fu : Nat} {σ0 τ : tM} {v : Int32}  (C : tCx p s m args meth c yX10_versions.cls cX10_versions 3 (some .int) D aC b0 σ0) (htab : ∀ x ∈ c.exceptionTable.toList, False) (hin : meth.name = yX10_versions.name)  {s0 : Int32} {σ : tM} (hm : J_X10_versions_19 b0 fu  s0 σ = some (v, τ)) : tX p l e s m args below meth c 3 1 21 D aC b0 σ0 (.inl (some (.int v))) τ 19 [] [.int (s0)] σ := by
  unfold J_X10_versions_19 at hm
  obtain ⟨rfl, rfl⟩ := ret_e hm
  exact zx_iret C rfl rfl rfl dX10_versions_19
set_option maxRecDepth 100000 in
set_option maxHeartbeats 1000000 in
theorem c_X10_versions {l : Launch} {D : va_G} {aC : Nat → ClassId} {b0 fu : Nat} {a0 : Nat} {p0 : Int32} {σ τ : tM} {v : Int32} (hm : m_X10_versions b0 fu a0 p0 σ = some (v, τ)) : tMt l D aC b0 yX10_versions (Cond.code yX10_versions cX10_versions 3 (some .int)) 1 21 [.ref (a0), .int (p0)] σ (.inl (some (.int v))) τ := by
  unfold m_X10_versions at hm
  obtain ⟨hg, hm⟩ := grw_e hm
  refine tMt_of (n := 0) rfl (Nat.le_of_ble_eq_true rfl) hg ?_
  intro p e s m below meth c C htab hin
  refine zx_lv [0, 1] [(0, .ref (a0)), (1, .int (p0))] rfl ?_
  refine zx_aload_n C dX10_versions_0 0 rfl ?_
  obtain ⟨k1, i2, hm⟩ := ckO_e hm
  obtain ⟨a3, h4, hm⟩ := osm_e hm
  refine zx_get (j := 0) C tC_10 k1 i2 ⟨by decide, Or.inl W_2_213⟩ dX10_versions_1 (.ref a3) (rf_s h4) ?_
  refine zx_iload_n C dX10_versions_4 1 rfl ?_
  obtain ⟨k5, i6, hm⟩ := ckO_e hm
  obtain ⟨v7, ρ8, h9, hm⟩ := cll_e hm
  refine zx_callV (σ := σ) C [.int (p0)] tC_0 k5 i6 Y_X0_countOf W_3_46 W_3_47 W_3_48 (c_X0_countOf h9) (by decide) (by decide) rfl (Nat.le_of_ble_eq_true rfl) dX10_versions_5 rfl ?_
  refine zx_istore_n C [(2, .int (v7)), (0, .ref (a0)), (1, .int (p0))] dX10_versions_8 rfl (by decide) rfl ?_
  refine zx_iload_n C dX10_versions_9 0 rfl ?_
  refine zx_if_ge C 18 dX10_versions_10 (by decide) (fun c10 => ?_) (fun c10 => ?_)
  · replace hm := ip_e hm c10
    refine zx_iload_n C dX10_versions_18 0 rfl ?_
    exact zx_lv [] [] rfl (j_X10_versions_19 C htab hin    hm)
  · replace hm := in_e hm c10
    refine zx_bipush (v := (-9)) C dX10_versions_13 (by decide) ?_
    refine zx_goto C 19 dX10_versions_15 (by decide) ?_
    exact zx_lv [] [] rfl (j_X10_versions_19 C htab hin    hm)
abbrev cX0_keepOldest : ByteArray := prog_2_method_9_code
def yX0_keepOldest : MethodName := ⟨"SyncTree$Disk", "keepOldest", "()V"⟩
theorem Y_X0_keepOldest : tY yX0_keepOldest cX0_keepOldest 1 none 0 := ⟨W_3_211, W_1_2, ⟨by decide +kernel, by decide +kernel⟩, by decide +kernel⟩
theorem dX0_keepOldest_0 : decode cX0_keepOldest 0 = .ok (.aload_n 0, 1) := by decide +kernel
theorem dX0_keepOldest_1 : decode cX0_keepOldest 1 = .ok (.aload_n 0, 1) := by decide +kernel
theorem dX0_keepOldest_2 : decode cX0_keepOldest 2 = .ok (.getfield 53, 3) := by decide +kernel
theorem dX0_keepOldest_5 : decode cX0_keepOldest 5 = .ok (.invokevirtual 101, 3) := by decide +kernel
theorem dX0_keepOldest_8 : decode cX0_keepOldest 8 = .ok (.aload_n 0, 1) := by decide +kernel
theorem dX0_keepOldest_9 : decode cX0_keepOldest 9 = .ok (.getfield 21, 3) := by decide +kernel
theorem dX0_keepOldest_12 : decode cX0_keepOldest 12 = .ok (.aload_n 0, 1) := by decide +kernel
theorem dX0_keepOldest_13 : decode cX0_keepOldest 13 = .ok (.getfield 27, 3) := by decide +kernel
theorem dX0_keepOldest_16 : decode cX0_keepOldest 16 = .ok (.aload_n 0, 1) := by decide +kernel
theorem dX0_keepOldest_17 : decode cX0_keepOldest 17 = .ok (.getfield 53, 3) := by decide +kernel
theorem dX0_keepOldest_20 : decode cX0_keepOldest 20 = .ok (.iaload, 1) := by decide +kernel
theorem dX0_keepOldest_21 : decode cX0_keepOldest 21 = .ok (.dup2, 1) := by decide +kernel
theorem dX0_keepOldest_22 : decode cX0_keepOldest 22 = .ok (.iaload, 1) := by decide +kernel
theorem dX0_keepOldest_23 : decode cX0_keepOldest 23 = .ok (.iconst 1, 1) := by decide +kernel
theorem dX0_keepOldest_24 : decode cX0_keepOldest 24 = .ok (.isub, 1) := by decide +kernel
theorem dX0_keepOldest_25 : decode cX0_keepOldest 25 = .ok (.iastore, 1) := by decide +kernel
theorem dX0_keepOldest_26 : decode cX0_keepOldest 26 = .ok (.aload_n 0, 1) := by decide +kernel
theorem dX0_keepOldest_27 : decode cX0_keepOldest 27 = .ok (.aload_n 0, 1) := by decide +kernel
theorem dX0_keepOldest_28 : decode cX0_keepOldest 28 = .ok (.getfield 53, 3) := by decide +kernel
theorem dX0_keepOldest_31 : decode cX0_keepOldest 31 = .ok (.iconst 1, 1) := by decide +kernel
theorem dX0_keepOldest_32 : decode cX0_keepOldest 32 = .ok (.iadd, 1) := by decide +kernel
theorem dX0_keepOldest_33 : decode cX0_keepOldest 33 = .ok (.sipush 256, 3) := by decide +kernel
theorem dX0_keepOldest_36 : decode cX0_keepOldest 36 = .ok (.irem, 1) := by decide +kernel
theorem dX0_keepOldest_37 : decode cX0_keepOldest 37 = .ok (.putfield 53, 3) := by decide +kernel
theorem dX0_keepOldest_40 : decode cX0_keepOldest 40 = .ok (.aload_n 0, 1) := by decide +kernel
theorem dX0_keepOldest_41 : decode cX0_keepOldest 41 = .ok (.dup, 1) := by decide +kernel
theorem dX0_keepOldest_42 : decode cX0_keepOldest 42 = .ok (.getfield 56, 3) := by decide +kernel
theorem dX0_keepOldest_45 : decode cX0_keepOldest 45 = .ok (.iconst 1, 1) := by decide +kernel
theorem dX0_keepOldest_46 : decode cX0_keepOldest 46 = .ok (.isub, 1) := by decide +kernel
theorem dX0_keepOldest_47 : decode cX0_keepOldest 47 = .ok (.putfield 56, 3) := by decide +kernel
theorem dX0_keepOldest_50 : decode cX0_keepOldest 50 = .ok (.return_, 1) := by decide +kernel
def m_X0_keepOldest (b0 fu : Nat) (a0 : Nat) (σ : tM) : Option ((Unit) × tM) := grw σ (ckO b0 (σ) (a0) 0 (cll (m_X0_keep b0 fu (a0) (tI (σ) (a0) 9) (σ)) (fun v3 ρ4 => ckO b0 (ρ4) (a0) 0 (osm (tA (ρ4) (a0) 2) (fun a8 => osm (tA (ρ4) (a0) 4) (fun a10 => ckR b0 (ρ4) (a10) 0 (fun n14 => ckI (tI (ρ4) (a0) 9) (n14) (ckR b0 (ρ4) (a8) 0 (fun n18 => ckI (tI (ρ4) (a10) ((tI (ρ4) (a0) 9).toNatClampNeg)) (n18) (ckI (tI (ρ4) (a10) ((tI (ρ4) (a0) 9).toNatClampNeg)) (n18) (some ((), sI (sI (sI (ρ4) (a8) ((tI (ρ4) (a10) ((tI (ρ4) (a0) 9).toNatClampNeg)).toNatClampNeg) ((tI (ρ4) (a8) ((tI (ρ4) (a10) ((tI (ρ4) (a0) 9).toNatClampNeg)).toNatClampNeg)) - (1))) (a0) 9 (((tI (sI (ρ4) (a8) ((tI (ρ4) (a10) ((tI (ρ4) (a0) 9).toNatClampNeg)).toNatClampNeg) ((tI (ρ4) (a8) ((tI (ρ4) (a10) ((tI (ρ4) (a0) 9).toNatClampNeg)).toNatClampNeg)) - (1))) (a0) 9) + (1)) - ((tI (sI (ρ4) (a8) ((tI (ρ4) (a10) ((tI (ρ4) (a0) 9).toNatClampNeg)).toNatClampNeg) ((tI (ρ4) (a8) ((tI (ρ4) (a10) ((tI (ρ4) (a0) 9).toNatClampNeg)).toNatClampNeg)) - (1))) (a0) 9) + (1)) / (256) * (256))) (a0) 10 ((tI (sI (sI (ρ4) (a8) ((tI (ρ4) (a10) ((tI (ρ4) (a0) 9).toNatClampNeg)).toNatClampNeg) ((tI (ρ4) (a8) ((tI (ρ4) (a10) ((tI (ρ4) (a0) 9).toNatClampNeg)).toNatClampNeg)) - (1))) (a0) 9 (((tI (sI (ρ4) (a8) ((tI (ρ4) (a10) ((tI (ρ4) (a0) 9).toNatClampNeg)).toNatClampNeg) ((tI (ρ4) (a8) ((tI (ρ4) (a10) ((tI (ρ4) (a0) 9).toNatClampNeg)).toNatClampNeg)) - (1))) (a0) 9) + (1)) - ((tI (sI (ρ4) (a8) ((tI (ρ4) (a10) ((tI (ρ4) (a0) 9).toNatClampNeg)).toNatClampNeg) ((tI (ρ4) (a8) ((tI (ρ4) (a10) ((tI (ρ4) (a0) 9).toNatClampNeg)).toNatClampNeg)) - (1))) (a0) 9) + (1)) / (256) * (256))) (a0) 10) - (1))))))))))))))
set_option maxRecDepth 100000 in
set_option maxHeartbeats 1000000 in
theorem c_X0_keepOldest {l : Launch} {D : va_G} {aC : Nat → ClassId} {b0 fu : Nat} {a0 : Nat} {σ τ : tM} {v : Unit} (hm : m_X0_keepOldest b0 fu a0 σ = some (v, τ)) : tMt l D aC b0 yX0_keepOldest (Cond.code yX0_keepOldest cX0_keepOldest 1 none) 1 23 [.ref (a0)] σ (.inl none) τ := by
  unfold m_X0_keepOldest at hm
  obtain ⟨hg, hm⟩ := grw_e hm
  refine tMt_of (n := 0) rfl (Nat.le_of_ble_eq_true rfl) hg ?_
  intro p e s m below meth c C htab hin
  refine zx_lv [0] [(0, .ref (a0))] rfl ?_
  refine zx_aload_n C dX0_keepOldest_0 0 rfl ?_
  refine zx_aload_n C dX0_keepOldest_1 0 rfl ?_
  obtain ⟨k1, i2, hm⟩ := ckO_e hm
  refine zx_get (j := 9) C tC_0 k1 i2 ⟨by decide, Or.inl W_1_45⟩ dX0_keepOldest_2 (.int (tI (σ) (a0) 9)) rfl ?_
  obtain ⟨v3, ρ4, h5, hm⟩ := cll_e hm
  refine zx_callV (σ := σ) C [.int (tI (σ) (a0) 9)] tC_0 k1 i2 Y_X0_keep W_3_212 W_3_214 Wp_14 (c_X0_keep h5) (by decide) (by decide) rfl (Nat.le_of_ble_eq_true rfl) dX0_keepOldest_5 rfl ?_
  refine zx_aload_n C dX0_keepOldest_8 0 rfl ?_
  obtain ⟨k6, i7, hm⟩ := ckO_e hm
  obtain ⟨a8, h9, hm⟩ := osm_e hm
  refine zx_get (j := 2) C tC_0 k6 i7 ⟨by decide, Or.inl W_1_38⟩ dX0_keepOldest_9 (.ref a8) (rf_s h9) ?_
  refine zx_aload_n C dX0_keepOldest_12 0 rfl ?_
  obtain ⟨a10, h11, hm⟩ := osm_e hm
  refine zx_get (j := 4) C tC_0 k6 i7 ⟨by decide, Or.inl W_1_40⟩ dX0_keepOldest_13 (.ref a10) (rf_s h11) ?_
  refine zx_aload_n C dX0_keepOldest_16 0 rfl ?_
  refine zx_get (j := 9) C tC_0 k6 i7 ⟨by decide, Or.inl W_1_45⟩ dX0_keepOldest_17 (.int (tI (ρ4) (a0) 9)) rfl ?_
  obtain ⟨n14, k12, i13, hm⟩ := ckR_e hm
  obtain ⟨h15, hm⟩ := ckI_e hm
  refine zx_iald C k12 i13 h15 dX0_keepOldest_20 ?_
  refine zx_dup2_11 C dX0_keepOldest_21 rfl rfl ?_
  obtain ⟨n18, k16, i17, hm⟩ := ckR_e hm
  obtain ⟨h19, hm⟩ := ckI_e hm
  refine zx_iald C k16 i17 h19 dX0_keepOldest_22 ?_
  refine zx_iconst (v := 1) C dX0_keepOldest_23 (by decide) ?_
  refine zx_isub C dX0_keepOldest_24 ?_
  obtain ⟨h20, hm⟩ := ckI_e hm
  refine zx_iast C k16 i17 h20 dX0_keepOldest_25 ?_
  refine zx_aload_n C dX0_keepOldest_26 0 rfl ?_
  refine zx_aload_n C dX0_keepOldest_27 0 rfl ?_
  refine zx_get (j := 9) C tC_0 k6 i7 ⟨by decide, Or.inl W_1_45⟩ dX0_keepOldest_28 (.int (tI (sI (ρ4) (a8) ((tI (ρ4) (a10) ((tI (ρ4) (a0) 9).toNatClampNeg)).toNatClampNeg) ((tI (ρ4) (a8) ((tI (ρ4) (a10) ((tI (ρ4) (a0) 9).toNatClampNeg)).toNatClampNeg)) - (1))) (a0) 9)) rfl ?_
  refine zx_iconst (v := 1) C dX0_keepOldest_31 (by decide) ?_
  refine zx_iadd C dX0_keepOldest_32 ?_
  refine zx_sipush (v := 256) C dX0_keepOldest_33 (by decide) ?_
  refine zx_irem C dX0_keepOldest_36 (by decide) ?_
  refine zx_put (j := 9) (ρ := sI (sI (ρ4) (a8) ((tI (ρ4) (a10) ((tI (ρ4) (a0) 9).toNatClampNeg)).toNatClampNeg) ((tI (ρ4) (a8) ((tI (ρ4) (a10) ((tI (ρ4) (a0) 9).toNatClampNeg)).toNatClampNeg)) - (1))) (a0) 9 (((tI (sI (ρ4) (a8) ((tI (ρ4) (a10) ((tI (ρ4) (a0) 9).toNatClampNeg)).toNatClampNeg) ((tI (ρ4) (a8) ((tI (ρ4) (a10) ((tI (ρ4) (a0) 9).toNatClampNeg)).toNatClampNeg)) - (1))) (a0) 9) + (1)) - ((tI (sI (ρ4) (a8) ((tI (ρ4) (a10) ((tI (ρ4) (a0) 9).toNatClampNeg)).toNatClampNeg) ((tI (ρ4) (a8) ((tI (ρ4) (a10) ((tI (ρ4) (a0) 9).toNatClampNeg)).toNatClampNeg)) - (1))) (a0) 9) + (1)) / (256) * (256))) C tC_0 k6 i7 ⟨by decide, Or.inl W_1_45⟩ rfl rfl rfl (sI_ok (fun _ => rfl)) dX0_keepOldest_37 ?_
  refine zx_aload_n C dX0_keepOldest_40 0 rfl ?_
  refine zx_dup C dX0_keepOldest_41 rfl ?_
  refine zx_get (j := 10) C tC_0 k6 i7 ⟨by decide, Or.inl W_1_46⟩ dX0_keepOldest_42 (.int (tI (sI (sI (ρ4) (a8) ((tI (ρ4) (a10) ((tI (ρ4) (a0) 9).toNatClampNeg)).toNatClampNeg) ((tI (ρ4) (a8) ((tI (ρ4) (a10) ((tI (ρ4) (a0) 9).toNatClampNeg)).toNatClampNeg)) - (1))) (a0) 9 (((tI (sI (ρ4) (a8) ((tI (ρ4) (a10) ((tI (ρ4) (a0) 9).toNatClampNeg)).toNatClampNeg) ((tI (ρ4) (a8) ((tI (ρ4) (a10) ((tI (ρ4) (a0) 9).toNatClampNeg)).toNatClampNeg)) - (1))) (a0) 9) + (1)) - ((tI (sI (ρ4) (a8) ((tI (ρ4) (a10) ((tI (ρ4) (a0) 9).toNatClampNeg)).toNatClampNeg) ((tI (ρ4) (a8) ((tI (ρ4) (a10) ((tI (ρ4) (a0) 9).toNatClampNeg)).toNatClampNeg)) - (1))) (a0) 9) + (1)) / (256) * (256))) (a0) 10)) rfl ?_
  refine zx_iconst (v := 1) C dX0_keepOldest_45 (by decide) ?_
  refine zx_isub C dX0_keepOldest_46 ?_
  refine zx_put (j := 10) (ρ := sI (sI (sI (ρ4) (a8) ((tI (ρ4) (a10) ((tI (ρ4) (a0) 9).toNatClampNeg)).toNatClampNeg) ((tI (ρ4) (a8) ((tI (ρ4) (a10) ((tI (ρ4) (a0) 9).toNatClampNeg)).toNatClampNeg)) - (1))) (a0) 9 (((tI (sI (ρ4) (a8) ((tI (ρ4) (a10) ((tI (ρ4) (a0) 9).toNatClampNeg)).toNatClampNeg) ((tI (ρ4) (a8) ((tI (ρ4) (a10) ((tI (ρ4) (a0) 9).toNatClampNeg)).toNatClampNeg)) - (1))) (a0) 9) + (1)) - ((tI (sI (ρ4) (a8) ((tI (ρ4) (a10) ((tI (ρ4) (a0) 9).toNatClampNeg)).toNatClampNeg) ((tI (ρ4) (a8) ((tI (ρ4) (a10) ((tI (ρ4) (a0) 9).toNatClampNeg)).toNatClampNeg)) - (1))) (a0) 9) + (1)) / (256) * (256))) (a0) 10 ((tI (sI (sI (ρ4) (a8) ((tI (ρ4) (a10) ((tI (ρ4) (a0) 9).toNatClampNeg)).toNatClampNeg) ((tI (ρ4) (a8) ((tI (ρ4) (a10) ((tI (ρ4) (a0) 9).toNatClampNeg)).toNatClampNeg)) - (1))) (a0) 9 (((tI (sI (ρ4) (a8) ((tI (ρ4) (a10) ((tI (ρ4) (a0) 9).toNatClampNeg)).toNatClampNeg) ((tI (ρ4) (a8) ((tI (ρ4) (a10) ((tI (ρ4) (a0) 9).toNatClampNeg)).toNatClampNeg)) - (1))) (a0) 9) + (1)) - ((tI (sI (ρ4) (a8) ((tI (ρ4) (a10) ((tI (ρ4) (a0) 9).toNatClampNeg)).toNatClampNeg) ((tI (ρ4) (a8) ((tI (ρ4) (a10) ((tI (ρ4) (a0) 9).toNatClampNeg)).toNatClampNeg)) - (1))) (a0) 9) + (1)) / (256) * (256))) (a0) 10) - (1))) C tC_0 k6 i7 ⟨by decide, Or.inl W_1_46⟩ rfl rfl rfl (sI_ok (fun _ => rfl)) dX0_keepOldest_47 ?_
  obtain ⟨rfl, rfl⟩ := ret_e hm
  exact zx_vret C rfl rfl rfl dX0_keepOldest_50
abbrev cX1_forget : ByteArray := prog_3_method_2_code
def yX1_forget : MethodName := ⟨"SyncTree$Journal", "forget", "()V"⟩
theorem Y_X1_forget : tY yX1_forget cX1_forget 2 none 0 := ⟨W_2_88, W_1_5, ⟨by decide +kernel, by decide +kernel⟩, by decide +kernel⟩
theorem dX1_forget_0 : decode cX1_forget 0 = .ok (.aload_n 0, 1) := by decide +kernel
theorem dX1_forget_1 : decode cX1_forget 1 = .ok (.invokevirtual 33, 3) := by decide +kernel
theorem dX1_forget_4 : decode cX1_forget 4 = .ok (.iconst 0, 1) := by decide +kernel
theorem dX1_forget_5 : decode cX1_forget 5 = .ok (.istore_n 1, 1) := by decide +kernel
theorem dX1_forget_6 : decode cX1_forget 6 = .ok (.iload_n 1, 1) := by decide +kernel
theorem dX1_forget_7 : decode cX1_forget 7 = .ok (.aload_n 0, 1) := by decide +kernel
theorem dX1_forget_8 : decode cX1_forget 8 = .ok (.getfield 25, 3) := by decide +kernel
theorem dX1_forget_11 : decode cX1_forget 11 = .ok (.getfield 36, 3) := by decide +kernel
theorem dX1_forget_14 : decode cX1_forget 14 = .ok (.if_icmp .ge 15, 3) := by decide +kernel
theorem dX1_forget_17 : decode cX1_forget 17 = .ok (.aload_n 0, 1) := by decide +kernel
theorem dX1_forget_18 : decode cX1_forget 18 = .ok (.iload_n 1, 1) := by decide +kernel
theorem dX1_forget_19 : decode cX1_forget 19 = .ok (.aconst_null, 1) := by decide +kernel
theorem dX1_forget_20 : decode cX1_forget 20 = .ok (.invokevirtual 42, 3) := by decide +kernel
theorem dX1_forget_23 : decode cX1_forget 23 = .ok (.iinc 1 1, 3) := by decide +kernel
theorem dX1_forget_26 : decode cX1_forget 26 = .ok (.goto (-20), 3) := by decide +kernel
theorem dX1_forget_29 : decode cX1_forget 29 = .ok (.return_, 1) := by decide +kernel
def L_X1_forget_6 (b0 fu : Nat)  : Nat → Nat → Int32 → tM → Option ((Unit) × tM)
  | 0, _, _, _ => none
  | n + 1, x0, x1, σ => ltb (L_X1_forget_6 b0 fu  n) (fun rc6 => ckO b0 (σ) (x0) 1 (osm (tA (σ) (x0) 1) (fun a8 => ckO b0 (σ) (a8) 5 (if (tI (σ) (a8) 7) ≤ (x1) then some ((), σ) else cll (m_X1_setBase b0 fu (x0) (x1) (none) (σ)) (fun v13 ρ14 => ltb ((x1) + Int32.ofInt 1) (fun y16 => rc6 (x0) (y16) (ρ14)))))))
def m_X1_forget (b0 fu : Nat) (a0 : Nat) (σ : tM) : Option ((Unit) × tM) := grw σ (ckO b0 (σ) (a0) 1 (cll (m_X1_dropAll b0 fu (a0) (σ)) (fun v3 ρ4 => L_X1_forget_6 b0 fu  (fu) (a0) (0) (ρ4))))
set_option maxRecDepth 100000 in
set_option maxHeartbeats 1000000 in
theorem l_X1_forget_6 {p : Program} {l : Launch} {e : Env} {s : State} {m : MethodId} {args : Array Value} {below : List Frame} {meth : Method} {c : Code} {D : va_G} {aC : Nat → ClassId} {b0 fu : Nat} {σ0 τ : tM} {v : Unit}  (C : tCx p s m args meth c yX1_forget.cls cX1_forget 2 none D aC b0 σ0) (htab : ∀ x ∈ c.exceptionTable.toList, False) (hin : meth.name = yX1_forget.name)  : ∀ (n : Nat) (x0 : Nat) (x1 : Int32) (σ : tM), L_X1_forget_6 b0 fu  n x0 x1 σ = some (v, τ) → tX p l e s m args below meth c 2 2 43 D aC b0 σ0 (.inl none) τ 6 [(0, .ref (x0)), (1, .int (x1))] [] σ := by
  intro n
  induction n with
  | zero => intro x0 x1 σ hm; unfold L_X1_forget_6 at hm; cases hm
  | succ n ih =>
    intro x0 x1 σ hm
    unfold L_X1_forget_6 at hm
    obtain ⟨rc6, hrc⟩ : ∃ z, z = L_X1_forget_6 b0 fu  n := ⟨_, rfl⟩
    replace hm := ltb_e hm hrc
    rw [← hrc] at ih
    have hrc6 := ih
    clear ih hrc
    refine zx_iload_n C dX1_forget_6 1 rfl ?_
    refine zx_aload_n C dX1_forget_7 0 rfl ?_
    obtain ⟨k6, i7, hm⟩ := ckO_e hm
    obtain ⟨a8, h9, hm⟩ := osm_e hm
    refine zx_get (j := 1) C tC_1 k6 i7 ⟨by decide, Or.inl W_1_181⟩ dX1_forget_8 (.ref a8) (rf_s h9) ?_
    obtain ⟨k10, i11, hm⟩ := ckO_e hm
    refine zx_get (j := 7) C tC_5 k10 i11 ⟨by decide, Or.inr ⟨_, W_1_103⟩⟩ dX1_forget_11 (.int (tI (σ) (a8) 7)) rfl ?_
    refine zx_icmp_ge C 29 dX1_forget_14 (by decide) (fun c12 => ?_) (fun c12 => ?_)
    · replace hm := ip_e hm c12
      obtain ⟨rfl, rfl⟩ := ret_e hm
      exact zx_vret C rfl rfl rfl dX1_forget_29
    · replace hm := in_e hm c12
      refine zx_aload_n C dX1_forget_17 0 rfl ?_
      refine zx_iload_n C dX1_forget_18 1 rfl ?_
      refine zx_null C dX1_forget_19 ?_
      obtain ⟨v13, ρ14, h15, hm⟩ := cll_e hm
      refine zx_callV (σ := σ) C [.int (x1), va_rf (none)] tC_1 k6 i7 Y_X1_setBase W_2_97 W_2_99 Wp_3 (c_X1_setBase h15) (by decide) (by decide) rfl (Nat.le_of_ble_eq_true rfl) dX1_forget_20 rfl ?_
      obtain ⟨y16, hy16⟩ : ∃ z : Int32, z = (x1) + Int32.ofInt 1 := ⟨_, rfl⟩
      replace hm := ltb_e hm hy16
      refine zx_iinc C [(1, .int (y16)), (0, .ref (x0))] dX1_forget_23 1 rfl hy16.symm (by decide) rfl ?_
      refine zx_goto C 6 dX1_forget_26 (by decide) ?_
      exact zx_lv [1, 0] [(0, .ref (x0)), (1, .int (y16))] rfl (hrc6 _ _ _ hm)
set_option maxRecDepth 100000 in
set_option maxHeartbeats 1000000 in
theorem c_X1_forget {l : Launch} {D : va_G} {aC : Nat → ClassId} {b0 fu : Nat} {a0 : Nat} {σ τ : tM} {v : Unit} (hm : m_X1_forget b0 fu a0 σ = some (v, τ)) : tMt l D aC b0 yX1_forget (Cond.code yX1_forget cX1_forget 2 none) 2 43 [.ref (a0)] σ (.inl none) τ := by
  unfold m_X1_forget at hm
  obtain ⟨hg, hm⟩ := grw_e hm
  refine tMt_of (n := 0) rfl (Nat.le_of_ble_eq_true rfl) hg ?_
  intro p e s m below meth c C htab hin
  refine zx_lv [0] [(0, .ref (a0))] rfl ?_
  refine zx_aload_n C dX1_forget_0 0 rfl ?_
  obtain ⟨k1, i2, hm⟩ := ckO_e hm
  obtain ⟨v3, ρ4, h5, hm⟩ := cll_e hm
  refine zx_callV (σ := σ) C [] tC_1 k1 i2 Y_X1_dropAll W_2_89 W_2_91 Wp_1 (c_X1_dropAll h5) (by decide) (by decide) rfl (Nat.le_of_ble_eq_true rfl) dX1_forget_1 rfl ?_
  refine zx_iconst (v := 0) C dX1_forget_4 (by decide) ?_
  refine zx_istore_n C [(1, .int (0)), (0, .ref (a0))] dX1_forget_5 rfl (by decide) rfl ?_
  exact zx_lv [1, 0] [(0, .ref (a0)), (1, .int (0))] rfl (l_X1_forget_6 C htab hin  _ _ _ _ hm)
abbrev cX1_takeRow : ByteArray := prog_3_method_5_code
def yX1_takeRow : MethodName := ⟨"SyncTree$Journal", "takeRow", "()LSyncTree$Row;"⟩
theorem Y_X1_takeRow : tY yX1_takeRow cX1_takeRow 2 (some (.object "SyncTree$Row")) 0 := ⟨W_2_183, W_1_5, ⟨by decide +kernel, by decide +kernel⟩, by decide +kernel⟩
theorem dX1_takeRow_0 : decode cX1_takeRow 0 = .ok (.aload_n 0, 1) := by decide +kernel
theorem dX1_takeRow_1 : decode cX1_takeRow 1 = .ok (.getfield 95, 3) := by decide +kernel
theorem dX1_takeRow_4 : decode cX1_takeRow 4 = .ok (.astore_n 1, 1) := by decide +kernel
theorem dX1_takeRow_5 : decode cX1_takeRow 5 = .ok (.aload_n 1, 1) := by decide +kernel
theorem dX1_takeRow_6 : decode cX1_takeRow 6 = .ok (.ifnonnull 11, 3) := by decide +kernel
theorem dX1_takeRow_9 : decode cX1_takeRow 9 = .ok (.new 9, 3) := by decide +kernel
theorem dX1_takeRow_12 : decode cX1_takeRow 12 = .ok (.dup, 1) := by decide +kernel
theorem dX1_takeRow_13 : decode cX1_takeRow 13 = .ok (.invokespecial 99, 3) := by decide +kernel
theorem dX1_takeRow_16 : decode cX1_takeRow 16 = .ok (.areturn, 1) := by decide +kernel
theorem dX1_takeRow_17 : decode cX1_takeRow 17 = .ok (.aload_n 0, 1) := by decide +kernel
theorem dX1_takeRow_18 : decode cX1_takeRow 18 = .ok (.aload_n 1, 1) := by decide +kernel
theorem dX1_takeRow_19 : decode cX1_takeRow 19 = .ok (.getfield 100, 3) := by decide +kernel
theorem dX1_takeRow_22 : decode cX1_takeRow 22 = .ok (.putfield 95, 3) := by decide +kernel
theorem dX1_takeRow_25 : decode cX1_takeRow 25 = .ok (.aload_n 1, 1) := by decide +kernel
theorem dX1_takeRow_26 : decode cX1_takeRow 26 = .ok (.aconst_null, 1) := by decide +kernel
theorem dX1_takeRow_27 : decode cX1_takeRow 27 = .ok (.putfield 100, 3) := by decide +kernel
theorem dX1_takeRow_30 : decode cX1_takeRow 30 = .ok (.aload_n 1, 1) := by decide +kernel
theorem dX1_takeRow_31 : decode cX1_takeRow 31 = .ok (.areturn, 1) := by decide +kernel
def m_X1_takeRow (b0 fu : Nat) (a0 : Nat) (σ : tM) : Option ((Option Nat) × tM) := grw σ (ckO b0 (σ) (a0) 1 (omt (tA (σ) (a0) 7) (fun a3 => ckO b0 (σ) (a3) 4 (omt (tA (σ) (a3) 1) (fun a7 => some (some (a3), sA (sA (σ) (a0) 7 (some (a7))) (a3) 1 (none))) (some (some (a3), sA (sA (σ) (a0) 7 (none)) (a3) 1 (none))))) (ltb (sN (σ) (b0 + tn (σ)) (.inl 4) 2) (fun ρ9 => cll (m_X4_init b0 fu (b0 + tn (σ)) (ρ9)) (fun v10 ρ11 => some (some (b0 + tn (σ)), ρ11))))))
set_option maxRecDepth 100000 in
set_option maxHeartbeats 1000000 in
theorem c_X1_takeRow {l : Launch} {D : va_G} {aC : Nat → ClassId} {b0 fu : Nat} {a0 : Nat} {σ τ : tM} {v : Option Nat} (hm : m_X1_takeRow b0 fu a0 σ = some (v, τ)) : tMt l D aC b0 yX1_takeRow (Cond.code yX1_takeRow cX1_takeRow 2 (some (.object "SyncTree$Row"))) 2 40 [.ref (a0)] σ (.inl (some (va_rf v))) τ := by
  unfold m_X1_takeRow at hm
  obtain ⟨hg, hm⟩ := grw_e hm
  refine tMt_of (n := 0) rfl (Nat.le_of_ble_eq_true rfl) hg ?_
  intro p e s m below meth c C htab hin
  refine zx_lv [0] [(0, .ref (a0))] rfl ?_
  refine zx_aload_n C dX1_takeRow_0 0 rfl ?_
  obtain ⟨k1, i2, hm⟩ := ckO_e hm
  rcases omt_e hm with ⟨a3, h4, hm⟩ | ⟨h4, hm⟩
  · refine zx_get (j := 7) C tC_1 k1 i2 ⟨by decide, Or.inl W_1_187⟩ dX1_takeRow_1 (.ref a3) (rf_s h4) ?_
    refine zx_astore_n C [(1, .ref (a3)), (0, .ref (a0))] dX1_takeRow_4 rfl (by decide) rfl ?_
    refine zx_aload_n C dX1_takeRow_5 0 rfl ?_
    refine zx_ifnonnull C 17 dX1_takeRow_6 (by decide) ?_
    refine zx_aload_n C dX1_takeRow_17 1 rfl ?_
    refine zx_aload_n C dX1_takeRow_18 0 rfl ?_
    obtain ⟨k5, i6, hm⟩ := ckO_e hm
    rcases omt_e hm with ⟨a7, h8, hm⟩ | ⟨h8, hm⟩
    · refine zx_get (j := 1) C tC_4 k5 i6 ⟨by decide, Or.inr ⟨_, W_2_192⟩⟩ dX1_takeRow_19 (.ref a7) (rf_s h8) ?_
      refine zx_put (j := 7) (ρ := sA (σ) (a0) 7 (some (a7))) C tC_1 k1 i2 ⟨by decide, Or.inl W_1_187⟩ rfl rfl rfl (sA_ok (fun _ => rfl)) dX1_takeRow_22 ?_
      refine zx_aload_n C dX1_takeRow_25 0 rfl ?_
      refine zx_null C dX1_takeRow_26 ?_
      refine zx_put (j := 1) (ρ := sA (sA (σ) (a0) 7 (some (a7))) (a3) 1 (none)) C tC_4 k5 i6 ⟨by decide, Or.inr ⟨_, W_2_192⟩⟩ rfl rfl rfl (sA_ok (fun _ => rfl)) dX1_takeRow_27 ?_
      refine zx_aload_n C dX1_takeRow_30 0 rfl ?_
      obtain ⟨rfl, rfl⟩ := ret_e hm
      exact zx_aret (x := some (a3)) C rfl (Or.inl ⟨_, rfl⟩) rfl rfl dX1_takeRow_31
    · refine zx_get (j := 1) C tC_4 k5 i6 ⟨by decide, Or.inr ⟨_, W_2_192⟩⟩ dX1_takeRow_19 .null (rf_n h8) ?_
      refine zx_put (j := 7) (ρ := sA (σ) (a0) 7 (none)) C tC_1 k1 i2 ⟨by decide, Or.inl W_1_187⟩ rfl rfl rfl (sA_ok (fun _ => rfl)) dX1_takeRow_22 ?_
      refine zx_aload_n C dX1_takeRow_25 0 rfl ?_
      refine zx_null C dX1_takeRow_26 ?_
      refine zx_put (j := 1) (ρ := sA (sA (σ) (a0) 7 (none)) (a3) 1 (none)) C tC_4 k5 i6 ⟨by decide, Or.inr ⟨_, W_2_192⟩⟩ rfl rfl rfl (sA_ok (fun _ => rfl)) dX1_takeRow_27 ?_
      refine zx_aload_n C dX1_takeRow_30 0 rfl ?_
      obtain ⟨rfl, rfl⟩ := ret_e hm
      exact zx_aret (x := some (a3)) C rfl (Or.inl ⟨_, rfl⟩) rfl rfl dX1_takeRow_31
  · refine zx_get (j := 7) C tC_1 k1 i2 ⟨by decide, Or.inl W_1_187⟩ dX1_takeRow_1 .null (rf_n h4) ?_
    refine zx_astore_nN C [(1, .null), (0, .ref (a0))] dX1_takeRow_4 rfl (by decide) rfl ?_
    refine zx_aload_nN C dX1_takeRow_5 0 rfl ?_
    refine zx_ifnonnullN C dX1_takeRow_6 ?_
    refine zx_new C tC_4 W_1_179 W_2_184 W_1_13 dX1_takeRow_9 ?_
    refine zx_mem (fun ρ9 hρ9 => ?_)
    replace hm := ltb_e hm hρ9
    refine zx_dup C dX1_takeRow_12 rfl ?_
    obtain ⟨v10, ρ11, h12, hm⟩ := cll_e hm
    refine zx_callIN (σ := ρ9) C [] Y_X4_init W_2_185 W_2_186 rfl (c_X4_init h12) (by decide) (by decide) rfl (Nat.le_of_ble_eq_true rfl) dX1_takeRow_13 rfl ?_
    obtain ⟨rfl, rfl⟩ := ret_e hm
    exact zx_aret (x := some (b0 + tn (σ))) C rfl (Or.inl ⟨_, rfl⟩) rfl rfl dX1_takeRow_16
abbrev cX1_isRevokedLater : ByteArray := prog_3_method_19_code
def yX1_isRevokedLater : MethodName := ⟨"SyncTree$Journal", "isRevokedLater", "(LSyncTree$Transaction;I)Z"⟩
theorem Y_X1_isRevokedLater : tY yX1_isRevokedLater cX1_isRevokedLater 4 (some .boolean) 2 := ⟨W_4_0, W_1_5, ⟨by decide +kernel, by decide +kernel⟩, by decide +kernel⟩
theorem dX1_isRevokedLater_0 : decode cX1_isRevokedLater 0 = .ok (.aload_n 1, 1) := by decide +kernel
theorem dX1_isRevokedLater_1 : decode cX1_isRevokedLater 1 = .ok (.getfield 155, 3) := by decide +kernel
theorem dX1_isRevokedLater_4 : decode cX1_isRevokedLater 4 = .ok (.astore_n 3, 1) := by decide +kernel
theorem dX1_isRevokedLater_5 : decode cX1_isRevokedLater 5 = .ok (.aload_n 3, 1) := by decide +kernel
theorem dX1_isRevokedLater_6 : decode cX1_isRevokedLater 6 = .ok (.ifnull 32, 3) := by decide +kernel
theorem dX1_isRevokedLater_9 : decode cX1_isRevokedLater 9 = .ok (.aload_n 3, 1) := by decide +kernel
theorem dX1_isRevokedLater_10 : decode cX1_isRevokedLater 10 = .ok (.getfield 183, 3) := by decide +kernel
theorem dX1_isRevokedLater_13 : decode cX1_isRevokedLater 13 = .ok (.aload_n 0, 1) := by decide +kernel
theorem dX1_isRevokedLater_14 : decode cX1_isRevokedLater 14 = .ok (.getfield 69, 3) := by decide +kernel
theorem dX1_isRevokedLater_17 : decode cX1_isRevokedLater 17 = .ok (.if_icmp .gt 21, 3) := by decide +kernel
theorem dX1_isRevokedLater_20 : decode cX1_isRevokedLater 20 = .ok (.aload_n 3, 1) := by decide +kernel
theorem dX1_isRevokedLater_21 : decode cX1_isRevokedLater 21 = .ok (.iload_n 2, 1) := by decide +kernel
theorem dX1_isRevokedLater_22 : decode cX1_isRevokedLater 22 = .ok (.invokevirtual 206, 3) := by decide +kernel
theorem dX1_isRevokedLater_25 : decode cX1_isRevokedLater 25 = .ok (.ifCond .eq 5, 3) := by decide +kernel
theorem dX1_isRevokedLater_28 : decode cX1_isRevokedLater 28 = .ok (.iconst 1, 1) := by decide +kernel
theorem dX1_isRevokedLater_29 : decode cX1_isRevokedLater 29 = .ok (.ireturn, 1) := by decide +kernel
theorem dX1_isRevokedLater_30 : decode cX1_isRevokedLater 30 = .ok (.aload_n 3, 1) := by decide +kernel
theorem dX1_isRevokedLater_31 : decode cX1_isRevokedLater 31 = .ok (.getfield 155, 3) := by decide +kernel
theorem dX1_isRevokedLater_34 : decode cX1_isRevokedLater 34 = .ok (.astore_n 3, 1) := by decide +kernel
theorem dX1_isRevokedLater_35 : decode cX1_isRevokedLater 35 = .ok (.goto (-30), 3) := by decide +kernel
theorem dX1_isRevokedLater_38 : decode cX1_isRevokedLater 38 = .ok (.iconst 0, 1) := by decide +kernel
theorem dX1_isRevokedLater_39 : decode cX1_isRevokedLater 39 = .ok (.ireturn, 1) := by decide +kernel
def J_X1_isRevokedLater_38 (b0 fu : Nat)   (σ : tM) : Option ((Int32) × tM) := some (0, σ)
def L_X1_isRevokedLater_5 (b0 fu : Nat)  : Nat → Nat → Int32 → Option Nat → tM → Option ((Int32) × tM)
  | 0, _, _, _, _ => none
  | n + 1, x0, x2, x3, σ => ltb (L_X1_isRevokedLater_5 b0 fu  n) (fun rc5 => omt (x3) (fun o5 => ckO b0 (σ) (o5) 7 (ckO b0 (σ) (x0) 1 (if (tI (σ) (x0) 13) < (tI (σ) (o5) 0) then J_X1_isRevokedLater_38 b0 fu    (σ) else cll (m_X7_revokes b0 fu (o5) (x2) (σ)) (fun v12 ρ13 => if (v12) = (0) then ckO b0 (ρ13) (o5) 7 (omt (tA (ρ13) (o5) 7) (fun a18 => rc5 (x0) (x2) (some (a18)) (ρ13)) (rc5 (x0) (x2) (none) (ρ13))) else some (1, ρ13))))) (J_X1_isRevokedLater_38 b0 fu    (σ)))
def m_X1_isRevokedLater (b0 fu : Nat) (a0 : Nat) (p0 : Nat) (p1 : Int32) (σ : tM) : Option ((Int32) × tM) := grw σ (ckO b0 (σ) (p0) 7 (omt (tA (σ) (p0) 7) (fun a3 => L_X1_isRevokedLater_5 b0 fu  (fu) (a0) (p1) (some (a3)) (σ)) (L_X1_isRevokedLater_5 b0 fu  (fu) (a0) (p1) (none) (σ))))
set_option maxRecDepth 100000 in
set_option maxHeartbeats 1000000 in
theorem j_X1_isRevokedLater_38 {p : Program} {l : Launch} {e : Env} {s : State} {m : MethodId} {args : Array Value} {below : List Frame} {meth : Method} {c : Code} {D : va_G} {aC : Nat → ClassId} {b0 fu : Nat} {σ0 τ : tM} {v : Int32}  (C : tCx p s m args meth c yX1_isRevokedLater.cls cX1_isRevokedLater 4 (some .boolean) D aC b0 σ0) (htab : ∀ x ∈ c.exceptionTable.toList, False) (hin : meth.name = yX1_isRevokedLater.name)   {σ : tM} (hm : J_X1_isRevokedLater_38 b0 fu   σ = some (v, τ)) : tX p l e s m args below meth c 4 1 22 D aC b0 σ0 (.inl (some (.int v))) τ 38 [] [] σ := by
  unfold J_X1_isRevokedLater_38 at hm
  refine zx_iconst (v := 0) C dX1_isRevokedLater_38 (by decide) ?_
  obtain ⟨rfl, rfl⟩ := ret_e hm
  exact zx_zret C rfl (by decide) rfl rfl dX1_isRevokedLater_39
set_option maxRecDepth 100000 in
set_option maxHeartbeats 1000000 in
theorem l_X1_isRevokedLater_5 {p : Program} {l : Launch} {e : Env} {s : State} {m : MethodId} {args : Array Value} {below : List Frame} {meth : Method} {c : Code} {D : va_G} {aC : Nat → ClassId} {b0 fu : Nat} {σ0 τ : tM} {v : Int32}  (C : tCx p s m args meth c yX1_isRevokedLater.cls cX1_isRevokedLater 4 (some .boolean) D aC b0 σ0) (htab : ∀ x ∈ c.exceptionTable.toList, False) (hin : meth.name = yX1_isRevokedLater.name)  : ∀ (n : Nat) (x0 : Nat) (x2 : Int32) (x3 : Option Nat) (σ : tM), L_X1_isRevokedLater_5 b0 fu  n x0 x2 x3 σ = some (v, τ) → tX p l e s m args below meth c 4 1 22 D aC b0 σ0 (.inl (some (.int v))) τ 5 [(0, .ref (x0)), (2, .int (x2)), (3, va_rf (x3))] [] σ := by
  intro n
  induction n with
  | zero => intro x0 x2 x3 σ hm; unfold L_X1_isRevokedLater_5 at hm; cases hm
  | succ n ih =>
    intro x0 x2 x3 σ hm
    unfold L_X1_isRevokedLater_5 at hm
    obtain ⟨rc5, hrc⟩ : ∃ z, z = L_X1_isRevokedLater_5 b0 fu  n := ⟨_, rfl⟩
    replace hm := ltb_e hm hrc
    rw [← hrc] at ih
    have hrc5 := ih
    clear ih hrc
    rcases omt_e hm with ⟨o5, h6, hm⟩ | ⟨h6, hm⟩
    · refine zx_lv [0, 1, 2] [(0, .ref (x0)), (2, .int (x2)), (3, .ref (o5))] (by rw [h6]; rfl) ?_
      refine zx_aload_n C dX1_isRevokedLater_5 2 rfl ?_
      refine zx_ifnull C dX1_isRevokedLater_6 ?_
      refine zx_aload_n C dX1_isRevokedLater_9 2 rfl ?_
      obtain ⟨k7, i8, hm⟩ := ckO_e hm
      refine zx_get (j := 0) C tC_7 k7 i8 ⟨by decide, Or.inr ⟨_, W_4_22⟩⟩ dX1_isRevokedLater_10 (.int (tI (σ) (o5) 0)) rfl ?_
      refine zx_aload_n C dX1_isRevokedLater_13 0 rfl ?_
      obtain ⟨k9, i10, hm⟩ := ckO_e hm
      refine zx_get (j := 13) C tC_1 k9 i10 ⟨by decide, Or.inl W_1_193⟩ dX1_isRevokedLater_14 (.int (tI (σ) (x0) 13)) rfl ?_
      refine zx_icmp_gt C 38 dX1_isRevokedLater_17 (by decide) (fun c11 => ?_) (fun c11 => ?_)
      · replace hm := ip_e hm c11
        exact zx_lv [] [] rfl (j_X1_isRevokedLater_38 C htab hin    hm)
      · replace hm := in_e hm c11
        refine zx_aload_n C dX1_isRevokedLater_20 2 rfl ?_
        refine zx_iload_n C dX1_isRevokedLater_21 1 rfl ?_
        obtain ⟨v12, ρ13, h14, hm⟩ := cll_e hm
        refine zx_callV (σ := σ) C [.int (x2)] tC_7 k7 i8 Y_X7_revokes W_4_1 W_4_2 W_4_3 (c_X7_revokes h14) (by decide) (by decide) rfl (Nat.le_of_ble_eq_true rfl) dX1_isRevokedLater_22 rfl ?_
        refine zx_if_eq C 30 dX1_isRevokedLater_25 (by decide) (fun c15 => ?_) (fun c15 => ?_)
        · replace hm := ip_e hm c15
          refine zx_aload_n C dX1_isRevokedLater_30 2 rfl ?_
          obtain ⟨k16, i17, hm⟩ := ckO_e hm
          rcases omt_e hm with ⟨a18, h19, hm⟩ | ⟨h19, hm⟩
          · refine zx_get (j := 7) C tC_7 k16 i17 ⟨by decide, Or.inr ⟨_, W_4_35⟩⟩ dX1_isRevokedLater_31 (.ref a18) (rf_s h19) ?_
            refine zx_astore_n C [(3, .ref (a18)), (0, .ref (x0)), (2, .int (x2))] dX1_isRevokedLater_34 rfl (by decide) rfl ?_
            refine zx_goto C 5 dX1_isRevokedLater_35 (by decide) ?_
            exact zx_lv [1, 2, 0] [(0, .ref (x0)), (2, .int (x2)), (3, va_rf (some (a18)))] rfl (hrc5 _ _ _ _ hm)
          · refine zx_get (j := 7) C tC_7 k16 i17 ⟨by decide, Or.inr ⟨_, W_4_35⟩⟩ dX1_isRevokedLater_31 .null (rf_n h19) ?_
            refine zx_astore_nN C [(3, .null), (0, .ref (x0)), (2, .int (x2))] dX1_isRevokedLater_34 rfl (by decide) rfl ?_
            refine zx_goto C 5 dX1_isRevokedLater_35 (by decide) ?_
            exact zx_lv [1, 2, 0] [(0, .ref (x0)), (2, .int (x2)), (3, va_rf (none))] rfl (hrc5 _ _ _ _ hm)
        · replace hm := in_e hm c15
          refine zx_iconst (v := 1) C dX1_isRevokedLater_28 (by decide) ?_
          obtain ⟨rfl, rfl⟩ := ret_e hm
          exact zx_zret C rfl (by decide) rfl rfl dX1_isRevokedLater_29
    · refine zx_lv [0, 1, 2] [(0, .ref (x0)), (2, .int (x2)), (3, .null)] (by rw [h6]; rfl) ?_
      refine zx_aload_nN C dX1_isRevokedLater_5 2 rfl ?_
      refine zx_ifnullN C 38 dX1_isRevokedLater_6 (by decide) ?_
      exact zx_lv [] [] rfl (j_X1_isRevokedLater_38 C htab hin    hm)
set_option maxRecDepth 100000 in
set_option maxHeartbeats 1000000 in
theorem c_X1_isRevokedLater {l : Launch} {D : va_G} {aC : Nat → ClassId} {b0 fu : Nat} {a0 : Nat} {p0 : Nat} {p1 : Int32} {σ τ : tM} {v : Int32} (hm : m_X1_isRevokedLater b0 fu a0 p0 p1 σ = some (v, τ)) : tMt l D aC b0 yX1_isRevokedLater (Cond.code yX1_isRevokedLater cX1_isRevokedLater 4 (some .boolean)) 1 22 [.ref (a0), .ref (p0), .int (p1)] σ (.inl (some (.int v))) τ := by
  unfold m_X1_isRevokedLater at hm
  obtain ⟨hg, hm⟩ := grw_e hm
  refine tMt_of (n := 0) rfl (Nat.le_of_ble_eq_true rfl) hg ?_
  intro p e s m below meth c C htab hin
  refine zx_lv [0, 1, 2] [(0, .ref (a0)), (1, .ref (p0)), (2, .int (p1))] rfl ?_
  refine zx_aload_n C dX1_isRevokedLater_0 1 rfl ?_
  obtain ⟨k1, i2, hm⟩ := ckO_e hm
  rcases omt_e hm with ⟨a3, h4, hm⟩ | ⟨h4, hm⟩
  · refine zx_get (j := 7) C tC_7 k1 i2 ⟨by decide, Or.inr ⟨_, W_4_35⟩⟩ dX1_isRevokedLater_1 (.ref a3) (rf_s h4) ?_
    refine zx_astore_n C [(3, .ref (a3)), (0, .ref (a0)), (1, .ref (p0)), (2, .int (p1))] dX1_isRevokedLater_4 rfl (by decide) rfl ?_
    exact zx_lv [1, 3, 0] [(0, .ref (a0)), (2, .int (p1)), (3, va_rf (some (a3)))] rfl (l_X1_isRevokedLater_5 C htab hin  _ _ _ _ _ hm)
  · refine zx_get (j := 7) C tC_7 k1 i2 ⟨by decide, Or.inr ⟨_, W_4_35⟩⟩ dX1_isRevokedLater_1 .null (rf_n h4) ?_
    refine zx_astore_nN C [(3, .null), (0, .ref (a0)), (1, .ref (p0)), (2, .int (p1))] dX1_isRevokedLater_4 rfl (by decide) rfl ?_
    exact zx_lv [1, 3, 0] [(0, .ref (a0)), (2, .int (p1)), (3, va_rf (none))] rfl (l_X1_isRevokedLater_5 C htab hin  _ _ _ _ _ hm)
abbrev cX1_lastWhole : ByteArray := prog_3_method_21_code
def yX1_lastWhole : MethodName := ⟨"SyncTree$Journal", "lastWhole", "(I)I"⟩
theorem Y_X1_lastWhole : tY yX1_lastWhole cX1_lastWhole 4 (some .int) 1 := ⟨W_6_132, W_1_5, ⟨by decide +kernel, by decide +kernel⟩, by decide +kernel⟩
theorem dX1_lastWhole_0 : decode cX1_lastWhole 0 = .ok (.iload_n 1, 1) := by decide +kernel
theorem dX1_lastWhole_1 : decode cX1_lastWhole 1 = .ok (.istore_n 2, 1) := by decide +kernel
theorem dX1_lastWhole_2 : decode cX1_lastWhole 2 = .ok (.aload_n 0, 1) := by decide +kernel
theorem dX1_lastWhole_3 : decode cX1_lastWhole 3 = .ok (.getfield 152, 3) := by decide +kernel
theorem dX1_lastWhole_6 : decode cX1_lastWhole 6 = .ok (.astore_n 3, 1) := by decide +kernel
theorem dX1_lastWhole_7 : decode cX1_lastWhole 7 = .ok (.aload_n 3, 1) := by decide +kernel
theorem dX1_lastWhole_8 : decode cX1_lastWhole 8 = .ok (.ifnull 34, 3) := by decide +kernel
theorem dX1_lastWhole_11 : decode cX1_lastWhole 11 = .ok (.aload_n 3, 1) := by decide +kernel
theorem dX1_lastWhole_12 : decode cX1_lastWhole 12 = .ok (.getfield 183, 3) := by decide +kernel
theorem dX1_lastWhole_15 : decode cX1_lastWhole 15 = .ok (.iload_n 1, 1) := by decide +kernel
theorem dX1_lastWhole_16 : decode cX1_lastWhole 16 = .ok (.if_icmp .le 18, 3) := by decide +kernel
theorem dX1_lastWhole_19 : decode cX1_lastWhole 19 = .ok (.aload_n 0, 1) := by decide +kernel
theorem dX1_lastWhole_20 : decode cX1_lastWhole 20 = .ok (.aload_n 3, 1) := by decide +kernel
theorem dX1_lastWhole_21 : decode cX1_lastWhole 21 = .ok (.invokevirtual 221, 3) := by decide +kernel
theorem dX1_lastWhole_24 : decode cX1_lastWhole 24 = .ok (.ifCond .ne 5, 3) := by decide +kernel
theorem dX1_lastWhole_27 : decode cX1_lastWhole 27 = .ok (.iload_n 2, 1) := by decide +kernel
theorem dX1_lastWhole_28 : decode cX1_lastWhole 28 = .ok (.ireturn, 1) := by decide +kernel
theorem dX1_lastWhole_29 : decode cX1_lastWhole 29 = .ok (.aload_n 3, 1) := by decide +kernel
theorem dX1_lastWhole_30 : decode cX1_lastWhole 30 = .ok (.getfield 183, 3) := by decide +kernel
theorem dX1_lastWhole_33 : decode cX1_lastWhole 33 = .ok (.istore_n 2, 1) := by decide +kernel
theorem dX1_lastWhole_34 : decode cX1_lastWhole 34 = .ok (.aload_n 3, 1) := by decide +kernel
theorem dX1_lastWhole_35 : decode cX1_lastWhole 35 = .ok (.getfield 155, 3) := by decide +kernel
theorem dX1_lastWhole_38 : decode cX1_lastWhole 38 = .ok (.astore_n 3, 1) := by decide +kernel
theorem dX1_lastWhole_39 : decode cX1_lastWhole 39 = .ok (.goto (-32), 3) := by decide +kernel
theorem dX1_lastWhole_42 : decode cX1_lastWhole 42 = .ok (.iload_n 2, 1) := by decide +kernel
theorem dX1_lastWhole_43 : decode cX1_lastWhole 43 = .ok (.ireturn, 1) := by decide +kernel
def J_X1_lastWhole_34 (b0 fu : Nat) (rc7 : Nat → Int32 → Int32 → Option Nat → tM → Option ((Int32) × tM)) (x0 : Nat) (x1 : Int32) (x2 : Int32) (x3 : Option Nat) (σ : tM) : Option ((Int32) × tM) := omt (x3) (fun o10 => ckO b0 (σ) (o10) 7 (omt (tA (σ) (o10) 7) (fun a14 => rc7 (x0) (x1) (x2) (some (a14)) (σ)) (rc7 (x0) (x1) (x2) (none) (σ)))) (none)
def L_X1_lastWhole_7 (b0 fu : Nat)  : Nat → Nat → Int32 → Int32 → Option Nat → tM → Option ((Int32) × tM)
  | 0, _, _, _, _, _ => none
  | n + 1, x0, x1, x2, x3, σ => ltb (L_X1_lastWhole_7 b0 fu  n) (fun rc7 => omt (x3) (fun o5 => ckO b0 (σ) (o5) 7 (if (tI (σ) (o5) 0) ≤ (x1) then J_X1_lastWhole_34 b0 fu rc7  (x0) (x1) (x2) (some (o5)) (σ) else ckO b0 (σ) (x0) 1 (cll (m_X1_isWhole b0 fu (x0) (o5) (σ)) (fun v18 ρ19 => if (v18) = (0) then some (x2, ρ19) else ckO b0 (ρ19) (o5) 7 (ltb ((tI (ρ19) (o5) 0 : Int32)) (fun y24 => J_X1_lastWhole_34 b0 fu rc7  (x0) (x1) (y24) (some (o5)) (ρ19))))))) (some (x2, σ)))
def m_X1_lastWhole (b0 fu : Nat) (a0 : Nat) (p0 : Int32) (σ : tM) : Option ((Int32) × tM) := grw σ (ckO b0 (σ) (a0) 1 (omt (tA (σ) (a0) 5) (fun a3 => L_X1_lastWhole_7 b0 fu  (fu) (a0) (p0) (p0) (some (a3)) (σ)) (L_X1_lastWhole_7 b0 fu  (fu) (a0) (p0) (p0) (none) (σ))))
set_option maxRecDepth 100000 in
set_option maxHeartbeats 1000000 in
theorem j_X1_lastWhole_34 {p : Program} {l : Launch} {e : Env} {s : State} {m : MethodId} {args : Array Value} {below : List Frame} {meth : Method} {c : Code} {D : va_G} {aC : Nat → ClassId} {b0 fu : Nat} {σ0 τ : tM} {v : Int32} {rc7 : Nat → Int32 → Int32 → Option Nat → tM → Option ((Int32) × tM)} (C : tCx p s m args meth c yX1_lastWhole.cls cX1_lastWhole 4 (some .int) D aC b0 σ0) (htab : ∀ x ∈ c.exceptionTable.toList, False) (hin : meth.name = yX1_lastWhole.name) (hrc7 : ∀ (x0 : Nat) (x1 : Int32) (x2 : Int32) (x3 : Option Nat) (ρ : tM), rc7 x0 x1 x2 x3 ρ = some (v, τ) → tX p l e s m args below meth c 4 2 43 D aC b0 σ0 (.inl (some (.int v))) τ 7 [(0, .ref (x0)), (1, .int (x1)), (2, .int (x2)), (3, va_rf (x3))] [] ρ) {x0 : Nat} {x1 : Int32} {x2 : Int32} {x3 : Option Nat} {σ : tM} (hm : J_X1_lastWhole_34 b0 fu rc7 x0 x1 x2 x3 σ = some (v, τ)) : tX p l e s m args below meth c 4 2 43 D aC b0 σ0 (.inl (some (.int v))) τ 34 [(0, .ref (x0)), (1, .int (x1)), (2, .int (x2)), (3, va_rf (x3))] [] σ := by
  unfold J_X1_lastWhole_34 at hm
  rcases omt_e hm with ⟨o10, h11, hm⟩ | ⟨h11, hm⟩
  · refine zx_lv [0, 1, 2, 3] [(0, .ref (x0)), (1, .int (x1)), (2, .int (x2)), (3, .ref (o10))] (by rw [h11]; rfl) ?_
    refine zx_aload_n C dX1_lastWhole_34 3 rfl ?_
    obtain ⟨k12, i13, hm⟩ := ckO_e hm
    rcases omt_e hm with ⟨a14, h15, hm⟩ | ⟨h15, hm⟩
    · refine zx_get (j := 7) C tC_7 k12 i13 ⟨by decide, Or.inr ⟨_, W_4_35⟩⟩ dX1_lastWhole_35 (.ref a14) (rf_s h15) ?_
      refine zx_astore_n C [(3, .ref (a14)), (0, .ref (x0)), (1, .int (x1)), (2, .int (x2))] dX1_lastWhole_38 rfl (by decide) rfl ?_
      refine zx_goto C 7 dX1_lastWhole_39 (by decide) ?_
      exact zx_lv [1, 2, 3, 0] [(0, .ref (x0)), (1, .int (x1)), (2, .int (x2)), (3, va_rf (some (a14)))] rfl (hrc7 _ _ _ _ _ hm)
    · refine zx_get (j := 7) C tC_7 k12 i13 ⟨by decide, Or.inr ⟨_, W_4_35⟩⟩ dX1_lastWhole_35 .null (rf_n h15) ?_
      refine zx_astore_nN C [(3, .null), (0, .ref (x0)), (1, .int (x1)), (2, .int (x2))] dX1_lastWhole_38 rfl (by decide) rfl ?_
      refine zx_goto C 7 dX1_lastWhole_39 (by decide) ?_
      exact zx_lv [1, 2, 3, 0] [(0, .ref (x0)), (1, .int (x1)), (2, .int (x2)), (3, va_rf (none))] rfl (hrc7 _ _ _ _ _ hm)
  · refine zx_lv [0, 1, 2, 3] [(0, .ref (x0)), (1, .int (x1)), (2, .int (x2)), (3, .null)] (by rw [h11]; rfl) ?_
    refine zx_aload_nN C dX1_lastWhole_34 3 rfl ?_
    cases hm
set_option maxRecDepth 100000 in
set_option maxHeartbeats 1000000 in
theorem l_X1_lastWhole_7 {p : Program} {l : Launch} {e : Env} {s : State} {m : MethodId} {args : Array Value} {below : List Frame} {meth : Method} {c : Code} {D : va_G} {aC : Nat → ClassId} {b0 fu : Nat} {σ0 τ : tM} {v : Int32}  (C : tCx p s m args meth c yX1_lastWhole.cls cX1_lastWhole 4 (some .int) D aC b0 σ0) (htab : ∀ x ∈ c.exceptionTable.toList, False) (hin : meth.name = yX1_lastWhole.name)  : ∀ (n : Nat) (x0 : Nat) (x1 : Int32) (x2 : Int32) (x3 : Option Nat) (σ : tM), L_X1_lastWhole_7 b0 fu  n x0 x1 x2 x3 σ = some (v, τ) → tX p l e s m args below meth c 4 2 43 D aC b0 σ0 (.inl (some (.int v))) τ 7 [(0, .ref (x0)), (1, .int (x1)), (2, .int (x2)), (3, va_rf (x3))] [] σ := by
  intro n
  induction n with
  | zero => intro x0 x1 x2 x3 σ hm; unfold L_X1_lastWhole_7 at hm; cases hm
  | succ n ih =>
    intro x0 x1 x2 x3 σ hm
    unfold L_X1_lastWhole_7 at hm
    obtain ⟨rc7, hrc⟩ : ∃ z, z = L_X1_lastWhole_7 b0 fu  n := ⟨_, rfl⟩
    replace hm := ltb_e hm hrc
    rw [← hrc] at ih
    have hrc7 := ih
    clear ih hrc
    rcases omt_e hm with ⟨o5, h6, hm⟩ | ⟨h6, hm⟩
    · refine zx_lv [0, 1, 2, 3] [(0, .ref (x0)), (1, .int (x1)), (2, .int (x2)), (3, .ref (o5))] (by rw [h6]; rfl) ?_
      refine zx_aload_n C dX1_lastWhole_7 3 rfl ?_
      refine zx_ifnull C dX1_lastWhole_8 ?_
      refine zx_aload_n C dX1_lastWhole_11 3 rfl ?_
      obtain ⟨k7, i8, hm⟩ := ckO_e hm
      refine zx_get (j := 0) C tC_7 k7 i8 ⟨by decide, Or.inr ⟨_, W_4_22⟩⟩ dX1_lastWhole_12 (.int (tI (σ) (o5) 0)) rfl ?_
      refine zx_iload_n C dX1_lastWhole_15 1 rfl ?_
      refine zx_icmp_le C 34 dX1_lastWhole_16 (by decide) (fun c9 => ?_) (fun c9 => ?_)
      · replace hm := ip_e hm c9
        exact zx_lv [0, 1, 2, 3] [(0, .ref (x0)), (1, .int (x1)), (2, .int (x2)), (3, va_rf (some (o5)))] rfl (j_X1_lastWhole_34 C htab hin hrc7   hm)
      · replace hm := in_e hm c9
        refine zx_aload_n C dX1_lastWhole_19 0 rfl ?_
        refine zx_aload_n C dX1_lastWhole_20 3 rfl ?_
        obtain ⟨k16, i17, hm⟩ := ckO_e hm
        obtain ⟨v18, ρ19, h20, hm⟩ := cll_e hm
        refine zx_callV (σ := σ) C [.ref (o5)] tC_1 k16 i17 Y_X1_isWhole W_6_133 W_6_135 Wp_47 (c_X1_isWhole h20) (by decide) (by decide) rfl (Nat.le_of_ble_eq_true rfl) dX1_lastWhole_21 rfl ?_
        refine zx_if_ne C 29 dX1_lastWhole_24 (by decide) (fun c21 => ?_) (fun c21 => ?_)
        · replace hm := in_e hm c21
          refine zx_aload_n C dX1_lastWhole_29 3 rfl ?_
          obtain ⟨k22, i23, hm⟩ := ckO_e hm
          refine zx_get (j := 0) C tC_7 k22 i23 ⟨by decide, Or.inr ⟨_, W_4_22⟩⟩ dX1_lastWhole_30 (.int (tI (ρ19) (o5) 0)) rfl ?_
          refine zx_topi (fun y24 hy24 => ?_)
          replace hm := ltb_e hm hy24
          refine zx_istore_n C [(2, .int (y24)), (0, .ref (x0)), (1, .int (x1)), (3, .ref (o5))] dX1_lastWhole_33 rfl (by decide) rfl ?_
          exact zx_lv [1, 2, 0, 3] [(0, .ref (x0)), (1, .int (x1)), (2, .int (y24)), (3, va_rf (some (o5)))] rfl (j_X1_lastWhole_34 C htab hin hrc7   hm)
        · replace hm := ip_e hm c21
          refine zx_iload_n C dX1_lastWhole_27 2 rfl ?_
          obtain ⟨rfl, rfl⟩ := ret_e hm
          exact zx_iret C rfl rfl rfl dX1_lastWhole_28
    · refine zx_lv [0, 1, 2, 3] [(0, .ref (x0)), (1, .int (x1)), (2, .int (x2)), (3, .null)] (by rw [h6]; rfl) ?_
      refine zx_aload_nN C dX1_lastWhole_7 3 rfl ?_
      refine zx_ifnullN C 42 dX1_lastWhole_8 (by decide) ?_
      refine zx_iload_n C dX1_lastWhole_42 2 rfl ?_
      obtain ⟨rfl, rfl⟩ := ret_e hm
      exact zx_iret C rfl rfl rfl dX1_lastWhole_43
set_option maxRecDepth 100000 in
set_option maxHeartbeats 1000000 in
theorem c_X1_lastWhole {l : Launch} {D : va_G} {aC : Nat → ClassId} {b0 fu : Nat} {a0 : Nat} {p0 : Int32} {σ τ : tM} {v : Int32} (hm : m_X1_lastWhole b0 fu a0 p0 σ = some (v, τ)) : tMt l D aC b0 yX1_lastWhole (Cond.code yX1_lastWhole cX1_lastWhole 4 (some .int)) 2 43 [.ref (a0), .int (p0)] σ (.inl (some (.int v))) τ := by
  unfold m_X1_lastWhole at hm
  obtain ⟨hg, hm⟩ := grw_e hm
  refine tMt_of (n := 0) rfl (Nat.le_of_ble_eq_true rfl) hg ?_
  intro p e s m below meth c C htab hin
  refine zx_lv [0, 1] [(0, .ref (a0)), (1, .int (p0))] rfl ?_
  refine zx_iload_n C dX1_lastWhole_0 1 rfl ?_
  refine zx_istore_n C [(2, .int (p0)), (0, .ref (a0)), (1, .int (p0))] dX1_lastWhole_1 rfl (by decide) rfl ?_
  refine zx_aload_n C dX1_lastWhole_2 1 rfl ?_
  obtain ⟨k1, i2, hm⟩ := ckO_e hm
  rcases omt_e hm with ⟨a3, h4, hm⟩ | ⟨h4, hm⟩
  · refine zx_get (j := 5) C tC_1 k1 i2 ⟨by decide, Or.inl W_1_185⟩ dX1_lastWhole_3 (.ref a3) (rf_s h4) ?_
    refine zx_astore_n C [(3, .ref (a3)), (2, .int (p0)), (0, .ref (a0)), (1, .int (p0))] dX1_lastWhole_6 rfl (by decide) rfl ?_
    exact zx_lv [2, 3, 1, 0] [(0, .ref (a0)), (1, .int (p0)), (2, .int (p0)), (3, va_rf (some (a3)))] rfl (l_X1_lastWhole_7 C htab hin  _ _ _ _ _ _ hm)
  · refine zx_get (j := 5) C tC_1 k1 i2 ⟨by decide, Or.inl W_1_185⟩ dX1_lastWhole_3 .null (rf_n h4) ?_
    refine zx_astore_nN C [(3, .null), (2, .int (p0)), (0, .ref (a0)), (1, .int (p0))] dX1_lastWhole_6 rfl (by decide) rfl ?_
    exact zx_lv [2, 3, 1, 0] [(0, .ref (a0)), (1, .int (p0)), (2, .int (p0)), (3, va_rf (none))] rfl (l_X1_lastWhole_7 C htab hin  _ _ _ _ _ _ hm)
