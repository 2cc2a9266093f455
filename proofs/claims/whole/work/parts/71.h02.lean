abbrev cX12_entry : ByteArray := prog_13_method_97_code
def yX12_entry : MethodName := ⟨"SyncTreeModel", "entry", "(II)I"⟩
theorem Y_X12_entry : tYH yX12_entry cX12_entry 5 (some .int) [(5, 16, 115, 425), (17, 29, 115, 425), (30, 42, 115, 425), (43, 57, 115, 425), (58, 72, 115, 425), (73, 114, 115, 425)] 2 := ⟨W_9_31, W_1_14, ⟨by decide +kernel, by decide +kernel⟩, by decide +kernel⟩
theorem dX12_entry_0 : decode cX12_entry 0 = .ok (.aload_n 0, 1) := by decide +kernel
theorem dX12_entry_1 : decode cX12_entry 1 = .ok (.iconst 0, 1) := by decide +kernel
theorem dX12_entry_2 : decode cX12_entry 2 = .ok (.putfield 3, 3) := by decide +kernel
theorem dX12_entry_5 : decode cX12_entry 5 = .ok (.aload_n 0, 1) := by decide +kernel
theorem dX12_entry_6 : decode cX12_entry 6 = .ok (.invokevirtual 403, 3) := by decide +kernel
theorem dX12_entry_9 : decode cX12_entry 9 = .ok (.iload_n 2, 1) := by decide +kernel
theorem dX12_entry_10 : decode cX12_entry 10 = .ok (.iconst (-1), 1) := by decide +kernel
theorem dX12_entry_11 : decode cX12_entry 11 = .ok (.if_icmp .ge 6, 3) := by decide +kernel
theorem dX12_entry_14 : decode cX12_entry 14 = .ok (.bipush (-9), 2) := by decide +kernel
theorem dX12_entry_16 : decode cX12_entry 16 = .ok (.ireturn, 1) := by decide +kernel
theorem dX12_entry_17 : decode cX12_entry 17 = .ok (.aload_n 0, 1) := by decide +kernel
theorem dX12_entry_18 : decode cX12_entry 18 = .ok (.iconst 0, 1) := by decide +kernel
theorem dX12_entry_19 : decode cX12_entry 19 = .ok (.iconst 1, 1) := by decide +kernel
theorem dX12_entry_20 : decode cX12_entry 20 = .ok (.invokevirtual 430, 3) := by decide +kernel
theorem dX12_entry_23 : decode cX12_entry 23 = .ok (.istore_n 3, 1) := by decide +kernel
theorem dX12_entry_24 : decode cX12_entry 24 = .ok (.iload_n 3, 1) := by decide +kernel
theorem dX12_entry_25 : decode cX12_entry 25 = .ok (.ifCond .ge 5, 3) := by decide +kernel
theorem dX12_entry_28 : decode cX12_entry 28 = .ok (.iload_n 3, 1) := by decide +kernel
theorem dX12_entry_29 : decode cX12_entry 29 = .ok (.ireturn, 1) := by decide +kernel
theorem dX12_entry_30 : decode cX12_entry 30 = .ok (.aload_n 0, 1) := by decide +kernel
theorem dX12_entry_31 : decode cX12_entry 31 = .ok (.iload_n 3, 1) := by decide +kernel
theorem dX12_entry_32 : decode cX12_entry 32 = .ok (.iconst 0, 1) := by decide +kernel
theorem dX12_entry_33 : decode cX12_entry 33 = .ok (.invokevirtual 247, 3) := by decide +kernel
theorem dX12_entry_36 : decode cX12_entry 36 = .ok (.iconst 2, 1) := by decide +kernel
theorem dX12_entry_37 : decode cX12_entry 37 = .ok (.if_icmp .eq 6, 3) := by decide +kernel
theorem dX12_entry_40 : decode cX12_entry 40 = .ok (.bipush (-3), 2) := by decide +kernel
theorem dX12_entry_42 : decode cX12_entry 42 = .ok (.ireturn, 1) := by decide +kernel
theorem dX12_entry_43 : decode cX12_entry 43 = .ok (.iload_n 1, 1) := by decide +kernel
theorem dX12_entry_44 : decode cX12_entry 44 = .ok (.ifCond .lt 12, 3) := by decide +kernel
theorem dX12_entry_47 : decode cX12_entry 47 = .ok (.iload_n 1, 1) := by decide +kernel
theorem dX12_entry_48 : decode cX12_entry 48 = .ok (.aload_n 0, 1) := by decide +kernel
theorem dX12_entry_49 : decode cX12_entry 49 = .ok (.iload_n 3, 1) := by decide +kernel
theorem dX12_entry_50 : decode cX12_entry 50 = .ok (.invokevirtual 299, 3) := by decide +kernel
theorem dX12_entry_53 : decode cX12_entry 53 = .ok (.if_icmp .lt 5, 3) := by decide +kernel
theorem dX12_entry_56 : decode cX12_entry 56 = .ok (.iconst (-1), 1) := by decide +kernel
theorem dX12_entry_57 : decode cX12_entry 57 = .ok (.ireturn, 1) := by decide +kernel
theorem dX12_entry_58 : decode cX12_entry 58 = .ok (.aload_n 0, 1) := by decide +kernel
theorem dX12_entry_59 : decode cX12_entry 59 = .ok (.iload_n 3, 1) := by decide +kernel
theorem dX12_entry_60 : decode cX12_entry 60 = .ok (.iload_n 1, 1) := by decide +kernel
theorem dX12_entry_61 : decode cX12_entry 61 = .ok (.invokevirtual 302, 3) := by decide +kernel
theorem dX12_entry_64 : decode cX12_entry 64 = .ok (.istore 4, 2) := by decide +kernel
theorem dX12_entry_66 : decode cX12_entry 66 = .ok (.iload_n 2, 1) := by decide +kernel
theorem dX12_entry_67 : decode cX12_entry 67 = .ok (.ifCond .ge 6, 3) := by decide +kernel
theorem dX12_entry_70 : decode cX12_entry 70 = .ok (.iload 4, 2) := by decide +kernel
theorem dX12_entry_72 : decode cX12_entry 72 = .ok (.ireturn, 1) := by decide +kernel
theorem dX12_entry_73 : decode cX12_entry 73 = .ok (.iload 4, 2) := by decide +kernel
theorem dX12_entry_75 : decode cX12_entry 75 = .ok (.bipush 64, 2) := by decide +kernel
theorem dX12_entry_77 : decode cX12_entry 77 = .ok (.if_icmp .eq 19, 3) := by decide +kernel
theorem dX12_entry_80 : decode cX12_entry 80 = .ok (.iload_n 2, 1) := by decide +kernel
theorem dX12_entry_81 : decode cX12_entry 81 = .ok (.aload_n 0, 1) := by decide +kernel
theorem dX12_entry_82 : decode cX12_entry 82 = .ok (.getfield 13, 3) := by decide +kernel
theorem dX12_entry_85 : decode cX12_entry 85 = .ok (.aload_n 0, 1) := by decide +kernel
theorem dX12_entry_86 : decode cX12_entry 86 = .ok (.iload_n 3, 1) := by decide +kernel
theorem dX12_entry_87 : decode cX12_entry 87 = .ok (.iload_n 1, 1) := by decide +kernel
theorem dX12_entry_88 : decode cX12_entry 88 = .ok (.iconst 1, 1) := by decide +kernel
theorem dX12_entry_89 : decode cX12_entry 89 = .ok (.invokevirtual 295, 3) := by decide +kernel
theorem dX12_entry_92 : decode cX12_entry 92 = .ok (.iaload, 1) := by decide +kernel
theorem dX12_entry_93 : decode cX12_entry 93 = .ok (.if_icmp .lt 7, 3) := by decide +kernel
theorem dX12_entry_96 : decode cX12_entry 96 = .ok (.iconst (-1), 1) := by decide +kernel
theorem dX12_entry_97 : decode cX12_entry 97 = .ok (.goto 17, 3) := by decide +kernel
theorem dX12_entry_100 : decode cX12_entry 100 = .ok (.aload_n 0, 1) := by decide +kernel
theorem dX12_entry_101 : decode cX12_entry 101 = .ok (.getfield 13, 3) := by decide +kernel
theorem dX12_entry_104 : decode cX12_entry 104 = .ok (.aload_n 0, 1) := by decide +kernel
theorem dX12_entry_105 : decode cX12_entry 105 = .ok (.iload_n 3, 1) := by decide +kernel
theorem dX12_entry_106 : decode cX12_entry 106 = .ok (.iload_n 1, 1) := by decide +kernel
theorem dX12_entry_107 : decode cX12_entry 107 = .ok (.iconst 2, 1) := by decide +kernel
theorem dX12_entry_108 : decode cX12_entry 108 = .ok (.iload_n 2, 1) := by decide +kernel
theorem dX12_entry_109 : decode cX12_entry 109 = .ok (.iadd, 1) := by decide +kernel
theorem dX12_entry_110 : decode cX12_entry 110 = .ok (.invokevirtual 295, 3) := by decide +kernel
theorem dX12_entry_113 : decode cX12_entry 113 = .ok (.iaload, 1) := by decide +kernel
theorem dX12_entry_114 : decode cX12_entry 114 = .ok (.ireturn, 1) := by decide +kernel
theorem dX12_entry_115 : decode cX12_entry 115 = .ok (.astore_n 3, 1) := by decide +kernel
theorem dX12_entry_116 : decode cX12_entry 116 = .ok (.aload_n 0, 1) := by decide +kernel
theorem dX12_entry_117 : decode cX12_entry 117 = .ok (.invokevirtual 427, 3) := by decide +kernel
theorem dX12_entry_120 : decode cX12_entry 120 = .ok (.ireturn, 1) := by decide +kernel
def J_X12_entry_56 (b0 fu : Nat)   (σ : tM) : Option ((Int32) × tM) := some ((-1), σ)
def J_X12_entry_114 (b0 fu : Nat)  (s0 : Int32) (σ : tM) : Option ((Int32) × tM) := some (s0, σ)
def J_X12_entry_96 (b0 fu : Nat)   (σ : tM) : Option ((Int32) × tM) := J_X12_entry_114 b0 fu   ((-1)) (σ)
def m_X12_entry (b0 fu : Nat) (a0 : Nat) (p0 : Int32) (p1 : Int32) (σ : tM) : Option ((Int32) × tM) := grw σ (ckO b0 (σ) (a0) 11 (cly (m_X12_up b0 fu (a0) (sI (σ) (a0) 0 (0))) (fun v3 ρ4 => if ((-1)) ≤ (p1) then ckO b0 (ρ4) (a0) 11 (cll (m_X12_walkTo b0 fu (a0) (0) (1) (ρ4)) (fun v9 ρ10 => if (0) ≤ (v9) then ckO b0 (ρ10) (a0) 11 (cll (m_X12_node b0 fu (a0) (v9) (0) (ρ10)) (fun v15 ρ16 => if (v15) = (2) then if (p0) < (0) then J_X12_entry_56 b0 fu    (ρ16) else ckO b0 (ρ16) (a0) 11 (cll (m_X12_entries b0 fu (a0) (v9) (ρ16)) (fun v22 ρ23 => if (p0) < (v22) then ckO b0 (ρ23) (a0) 11 (cll (m_X12_entryNode b0 fu (a0) (v9) (p0) (ρ23)) (fun v28 ρ29 => if (0) ≤ (p1) then if (v28) = (64) then J_X12_entry_96 b0 fu    (ρ29) else ckO b0 (ρ29) (a0) 11 (osm (tA (ρ29) (a0) 1) (fun a35 => cll (m_X12_entryAt b0 fu (a0) (v9) (p0) (1) (ρ29)) (fun v37 ρ38 => ckR b0 (ρ38) (a35) 0 (fun n42 => ckI (v37) (n42) (if (p1) < (tI (ρ38) (a35) ((v37).toNatClampNeg)) then ckO b0 (ρ38) (a0) 11 (osm (tA (ρ38) (a0) 1) (fun a47 => cll (m_X12_entryAt b0 fu (a0) (v9) (p0) ((2) + (p1)) (ρ38)) (fun v49 ρ50 => ckR b0 (ρ50) (a47) 0 (fun n54 => ckI (v49) (n54) (J_X12_entry_114 b0 fu   (tI (ρ50) (a47) ((v49).toNatClampNeg)) (ρ50)))))) else J_X12_entry_96 b0 fu    (ρ38)))))) else some (v28, ρ29))) else J_X12_entry_56 b0 fu    (ρ23))) else some ((-3), ρ16))) else some (v9, ρ10))) else some ((-9), ρ4)) (fun ρ57 => ckO b0 (ρ57) (a0) 11 (cll (m_X12_off b0 fu (a0) (ρ57)) (fun v60 ρ61 => some (v60, ρ61))))))
set_option maxRecDepth 100000 in
set_option maxHeartbeats 1000000 in
theorem j_X12_entry_56 {p : Program} {l : Launch} {e : Env} {s : State} {m : MethodId} {args : Array Value} {below : List Frame} {meth : Method} {c : Code} {D : va_G} {aC : Nat → ClassId} {b0 fu : Nat} {σ0 τ : tM} {v : Int32}  (C : tCx p l s m args meth c yX12_entry.cls cX12_entry 5 (some .int) D aC b0 σ0) (htab : c.exceptionTable.toList = tableOf [(5, 16, 115, 425), (17, 29, 115, 425), (30, 42, 115, 425), (43, 57, 115, 425), (58, 72, 115, 425), (73, 114, 115, 425)]) (hin : meth.name = yX12_entry.name)   {σ : tM} (hm : J_X12_entry_56 b0 fu   σ = some (v, τ)) : tX p l e s m args below meth c 5 9 215 D aC b0 σ0 (.inl (some (.int v))) τ 56 [] [] σ := by
  unfold J_X12_entry_56 at hm
  refine zx_iconst (v := (-1)) C dX12_entry_56 (by decide) ?_
  obtain ⟨rfl, rfl⟩ := ret_e hm
  exact zx_iret C rfl rfl rfl dX12_entry_57
set_option maxRecDepth 100000 in
set_option maxHeartbeats 1000000 in
theorem j_X12_entry_114 {p : Program} {l : Launch} {e : Env} {s : State} {m : MethodId} {args : Array Value} {below : List Frame} {meth : Method} {c : Code} {D : va_G} {aC : Nat → ClassId} {b0 fu : Nat} {σ0 τ : tM} {v : Int32}  (C : tCx p l s m args meth c yX12_entry.cls cX12_entry 5 (some .int) D aC b0 σ0) (htab : c.exceptionTable.toList = tableOf [(5, 16, 115, 425), (17, 29, 115, 425), (30, 42, 115, 425), (43, 57, 115, 425), (58, 72, 115, 425), (73, 114, 115, 425)]) (hin : meth.name = yX12_entry.name)  {s0 : Int32} {σ : tM} (hm : J_X12_entry_114 b0 fu  s0 σ = some (v, τ)) : tX p l e s m args below meth c 5 9 215 D aC b0 σ0 (.inl (some (.int v))) τ 114 [] [.int (s0)] σ := by
  unfold J_X12_entry_114 at hm
  obtain ⟨rfl, rfl⟩ := ret_e hm
  exact zx_iret C rfl rfl rfl dX12_entry_114
set_option maxRecDepth 100000 in
set_option maxHeartbeats 1000000 in
theorem j_X12_entry_96 {p : Program} {l : Launch} {e : Env} {s : State} {m : MethodId} {args : Array Value} {below : List Frame} {meth : Method} {c : Code} {D : va_G} {aC : Nat → ClassId} {b0 fu : Nat} {σ0 τ : tM} {v : Int32}  (C : tCx p l s m args meth c yX12_entry.cls cX12_entry 5 (some .int) D aC b0 σ0) (htab : c.exceptionTable.toList = tableOf [(5, 16, 115, 425), (17, 29, 115, 425), (30, 42, 115, 425), (43, 57, 115, 425), (58, 72, 115, 425), (73, 114, 115, 425)]) (hin : meth.name = yX12_entry.name)   {σ : tM} (hm : J_X12_entry_96 b0 fu   σ = some (v, τ)) : tX p l e s m args below meth c 5 9 215 D aC b0 σ0 (.inl (some (.int v))) τ 96 [] [] σ := by
  unfold J_X12_entry_96 at hm
  refine zx_iconst (v := (-1)) C dX12_entry_96 (by decide) ?_
  refine zx_goto C 114 dX12_entry_97 (by decide) ?_
  exact zx_lv [] [] rfl (j_X12_entry_114 C htab hin    hm)
set_option maxRecDepth 100000 in
set_option maxHeartbeats 1000000 in
theorem c_X12_entry {l : Launch} {D : va_G} {aC : Nat → ClassId} {b0 fu : Nat} {a0 : Nat} {p0 : Int32} {p1 : Int32} {σ τ : tM} {v : Int32} (hm : m_X12_entry b0 fu a0 p0 p1 σ = some (v, τ)) : tMt l D aC b0 yX12_entry (Cond.codeWith yX12_entry cX12_entry 5 (some .int) [(5, 16, 115, 425), (17, 29, 115, 425), (30, 42, 115, 425), (43, 57, 115, 425), (58, 72, 115, 425), (73, 114, 115, 425)]) 9 215 [.ref (a0), .int (p0), .int (p1)] σ (.inl (some (.int v))) τ := by
  unfold m_X12_entry at hm
  obtain ⟨hg, hm⟩ := grw_e hm
  refine tMt_ofH rfl (Nat.le_of_ble_eq_true rfl) hg ?_
  intro p e s m below meth c C htab hin
  refine zx_lv [0, 1, 2] [(0, .ref (a0)), (1, .int (p0)), (2, .int (p1))] rfl ?_
  refine zx_aload_n C dX12_entry_0 0 rfl ?_
  refine zx_iconst (v := 0) C dX12_entry_1 (by decide) ?_
  obtain ⟨k1, i2, hm⟩ := ckO_e hm
  refine zx_put (j := 0) (ρ := sI (σ) (a0) 0 (0)) C tC_11 k1 i2 ⟨by decide, Or.inl W_6_220⟩ rfl rfl rfl (sI_ok (fun _ => rfl)) dX12_entry_2 ?_
  refine zx_aload_n C dX12_entry_5 0 rfl ?_
  rcases cly_e hm with ⟨v3, ρ4, h5, hm⟩ | ⟨ρ57, h5, hm⟩
  · refine zx_callV (σ := sI (σ) (a0) 0 (0)) C [] tC_11 k1 i2 Y_X12_up W_7_179 W_7_181 Wp_57 (c_X12_up h5) (by decide) (by decide) rfl (Nat.le_of_ble_eq_true rfl) dX12_entry_6 rfl ?_
    refine zx_iload_n C dX12_entry_9 2 rfl ?_
    refine zx_iconst (v := (-1)) C dX12_entry_10 (by decide) ?_
    refine zx_icmp_ge C 17 dX12_entry_11 (by decide) (fun c6 => ?_) (fun c6 => ?_)
    · replace hm := ip_e hm c6
      refine zx_aload_n C dX12_entry_17 0 rfl ?_
      refine zx_iconst (v := 0) C dX12_entry_18 (by decide) ?_
      refine zx_iconst (v := 1) C dX12_entry_19 (by decide) ?_
      obtain ⟨k7, i8, hm⟩ := ckO_e hm
      obtain ⟨v9, ρ10, h11, hm⟩ := cll_e hm
      refine zx_callV (σ := ρ4) C [.int (0), .int (1)] tC_11 k7 i8 Y_X12_walkTo W_8_151 W_8_153 Wp_104 (c_X12_walkTo h11) (by decide) (by decide) rfl (Nat.le_of_ble_eq_true rfl) dX12_entry_20 rfl ?_
      refine zx_istore_n C [(3, .int (v9)), (0, .ref (a0)), (1, .int (p0)), (2, .int (p1))] dX12_entry_23 rfl (by decide) rfl ?_
      refine zx_iload_n C dX12_entry_24 0 rfl ?_
      refine zx_if_ge C 30 dX12_entry_25 (by decide) (fun c12 => ?_) (fun c12 => ?_)
      · replace hm := ip_e hm c12
        refine zx_aload_n C dX12_entry_30 1 rfl ?_
        refine zx_iload_n C dX12_entry_31 0 rfl ?_
        refine zx_iconst (v := 0) C dX12_entry_32 (by decide) ?_
        obtain ⟨k13, i14, hm⟩ := ckO_e hm
        obtain ⟨v15, ρ16, h17, hm⟩ := cll_e hm
        refine zx_callV (σ := ρ10) C [.int (v9), .int (0)] tC_11 k13 i14 Y_X12_node W_8_40 W_8_42 Wp_80 (c_X12_node h17) (by decide) (by decide) rfl (Nat.le_of_ble_eq_true rfl) dX12_entry_33 rfl ?_
        refine zx_iconst (v := 2) C dX12_entry_36 (by decide) ?_
        refine zx_icmp_eq C 43 dX12_entry_37 (by decide) (fun c18 => ?_) (fun c18 => ?_)
        · replace hm := ip_e hm c18
          refine zx_iload_n C dX12_entry_43 2 rfl ?_
          refine zx_if_lt C 56 dX12_entry_44 (by decide) (fun c19 => ?_) (fun c19 => ?_)
          · replace hm := ip_e hm c19
            exact zx_lv [] [] rfl (j_X12_entry_56 C htab hin    hm)
          · replace hm := in_e hm c19
            refine zx_iload_n C dX12_entry_47 2 rfl ?_
            refine zx_aload_n C dX12_entry_48 1 rfl ?_
            refine zx_iload_n C dX12_entry_49 0 rfl ?_
            obtain ⟨k20, i21, hm⟩ := ckO_e hm
            obtain ⟨v22, ρ23, h24, hm⟩ := cll_e hm
            refine zx_callV (σ := ρ16) C [.int (v9)] tC_11 k20 i21 Y_X12_entries W_8_48 W_8_50 Wp_82 (c_X12_entries h24) (by decide) (by decide) rfl (Nat.le_of_ble_eq_true rfl) dX12_entry_50 rfl ?_
            refine zx_icmp_lt C 58 dX12_entry_53 (by decide) (fun c25 => ?_) (fun c25 => ?_)
            · replace hm := ip_e hm c25
              refine zx_aload_n C dX12_entry_58 1 rfl ?_
              refine zx_iload_n C dX12_entry_59 0 rfl ?_
              refine zx_iload_n C dX12_entry_60 2 rfl ?_
              obtain ⟨k26, i27, hm⟩ := ckO_e hm
              obtain ⟨v28, ρ29, h30, hm⟩ := cll_e hm
              refine zx_callV (σ := ρ23) C [.int (v9), .int (p0)] tC_11 k26 i27 Y_X12_entryNode W_8_52 W_8_54 Wp_83 (c_X12_entryNode h30) (by decide) (by decide) rfl (Nat.le_of_ble_eq_true rfl) dX12_entry_61 rfl ?_
              refine zx_istore C [(4, .int (v28)), (3, .int (v9)), (0, .ref (a0)), (1, .int (p0)), (2, .int (p1))] dX12_entry_64 (by decide) rfl ?_
              refine zx_iload_n C dX12_entry_66 4 rfl ?_
              refine zx_if_ge C 73 dX12_entry_67 (by decide) (fun c31 => ?_) (fun c31 => ?_)
              · replace hm := ip_e hm c31
                refine zx_iload C dX12_entry_73 0 rfl ?_
                refine zx_bipush (v := 64) C dX12_entry_75 (by decide) ?_
                refine zx_icmp_eq C 96 dX12_entry_77 (by decide) (fun c32 => ?_) (fun c32 => ?_)
                · replace hm := ip_e hm c32
                  exact zx_lv [] [] rfl (j_X12_entry_96 C htab hin    hm)
                · replace hm := in_e hm c32
                  refine zx_iload_n C dX12_entry_80 4 rfl ?_
                  refine zx_aload_n C dX12_entry_81 2 rfl ?_
                  obtain ⟨k33, i34, hm⟩ := ckO_e hm
                  obtain ⟨a35, h36, hm⟩ := osm_e hm
                  refine zx_get (j := 1) C tC_11 k33 i34 ⟨by decide, Or.inl W_6_221⟩ dX12_entry_82 (.ref a35) (rf_s h36) ?_
                  refine zx_aload_n C dX12_entry_85 2 rfl ?_
                  refine zx_iload_n C dX12_entry_86 1 rfl ?_
                  refine zx_iload_n C dX12_entry_87 3 rfl ?_
                  refine zx_iconst (v := 1) C dX12_entry_88 (by decide) ?_
                  obtain ⟨v37, ρ38, h39, hm⟩ := cll_e hm
                  refine zx_callV (σ := ρ29) C [.int (v9), .int (p0), .int (1)] tC_11 k33 i34 Y_X12_entryAt W_8_56 W_8_58 Wp_84 (c_X12_entryAt h39) (by decide) (by decide) rfl (Nat.le_of_ble_eq_true rfl) dX12_entry_89 rfl ?_
                  obtain ⟨n42, k40, i41, hm⟩ := ckR_e hm
                  obtain ⟨h43, hm⟩ := ckI_e hm
                  refine zx_iald C k40 i41 h43 dX12_entry_92 ?_
                  refine zx_icmp_lt C 100 dX12_entry_93 (by decide) (fun c44 => ?_) (fun c44 => ?_)
                  · replace hm := ip_e hm c44
                    refine zx_aload_n C dX12_entry_100 2 rfl ?_
                    obtain ⟨k45, i46, hm⟩ := ckO_e hm
                    obtain ⟨a47, h48, hm⟩ := osm_e hm
                    refine zx_get (j := 1) C tC_11 k45 i46 ⟨by decide, Or.inl W_6_221⟩ dX12_entry_101 (.ref a47) (rf_s h48) ?_
                    refine zx_aload_n C dX12_entry_104 2 rfl ?_
                    refine zx_iload_n C dX12_entry_105 1 rfl ?_
                    refine zx_iload_n C dX12_entry_106 3 rfl ?_
                    refine zx_iconst (v := 2) C dX12_entry_107 (by decide) ?_
                    refine zx_iload_n C dX12_entry_108 4 rfl ?_
                    refine zx_iadd C dX12_entry_109 ?_
                    obtain ⟨v49, ρ50, h51, hm⟩ := cll_e hm
                    refine zx_callV (σ := ρ38) C [.int (v9), .int (p0), .int ((2) + (p1))] tC_11 k45 i46 Y_X12_entryAt W_8_56 W_8_58 Wp_84 (c_X12_entryAt h51) (by decide) (by decide) rfl (Nat.le_of_ble_eq_true rfl) dX12_entry_110 rfl ?_
                    obtain ⟨n54, k52, i53, hm⟩ := ckR_e hm
                    obtain ⟨h55, hm⟩ := ckI_e hm
                    refine zx_iald C k52 i53 h55 dX12_entry_113 ?_
                    exact zx_lv [] [] rfl (j_X12_entry_114 C htab hin    hm)
                  · replace hm := in_e hm c44
                    exact zx_lv [] [] rfl (j_X12_entry_96 C htab hin    hm)
              · replace hm := in_e hm c31
                refine zx_iload C dX12_entry_70 0 rfl ?_
                obtain ⟨rfl, rfl⟩ := ret_e hm
                exact zx_iret C rfl rfl rfl dX12_entry_72
            · replace hm := in_e hm c25
              exact zx_lv [] [] rfl (j_X12_entry_56 C htab hin    hm)
        · replace hm := in_e hm c18
          refine zx_bipush (v := (-3)) C dX12_entry_40 (by decide) ?_
          obtain ⟨rfl, rfl⟩ := ret_e hm
          exact zx_iret C rfl rfl rfl dX12_entry_42
      · replace hm := in_e hm c12
        refine zx_iload_n C dX12_entry_28 0 rfl ?_
        obtain ⟨rfl, rfl⟩ := ret_e hm
        exact zx_iret C rfl rfl rfl dX12_entry_29
    · replace hm := in_e hm c6
      refine zx_bipush (v := (-9)) C dX12_entry_14 (by decide) ?_
      obtain ⟨rfl, rfl⟩ := ret_e hm
      exact zx_iret C rfl rfl rfl dX12_entry_16
  · refine zx_catchV (σ := sI (σ) (a0) 0 (0)) (x9 := { startPc := 5, endPc := 16, handlerPc := 115, catchType := 425 }) C (tableOf []) (tableOf [(17, 29, 115, 425), (30, 42, 115, 425), (43, 57, 115, 425), (58, 72, 115, 425), (73, 114, 115, 425)]) htab (by decide) (by decide) (by decide) (E := "SyncTreeModel$Off") W_7_174 W_9_132 [] tC_11 k1 i2 Y_X12_up W_7_179 W_7_181 Wp_57 (c_X12_up h5) (by decide) (by decide) rfl (Nat.le_of_ble_eq_true rfl) dX12_entry_6 rfl (fun q56 => ?_)
    refine zx_astore_n C [(3, .ref (q56)), (0, .ref (a0)), (1, .int (p0)), (2, .int (p1))] dX12_entry_115 rfl (by decide) rfl ?_
    refine zx_aload_n C dX12_entry_116 1 rfl ?_
    obtain ⟨k58, i59, hm⟩ := ckO_e hm
    obtain ⟨v60, ρ61, h62, hm⟩ := cll_e hm
    refine zx_callV (σ := ρ57) C [] tC_11 k58 i59 Y_X12_off W_8_135 W_8_137 Wp_103 (c_X12_off h62) (by decide) (by decide) rfl (Nat.le_of_ble_eq_true rfl) dX12_entry_117 rfl ?_
    obtain ⟨rfl, rfl⟩ := ret_e hm
    exact zx_iret C rfl rfl rfl dX12_entry_120
abbrev cX12_textAt : ByteArray := prog_13_method_98_code
def yX12_textAt : MethodName := ⟨"SyncTreeModel", "textAt", "(I)I"⟩
theorem Y_X12_textAt : tYH yX12_textAt cX12_textAt 3 (some .int) [(5, 21, 62, 425), (22, 34, 62, 425), (35, 61, 62, 425)] 1 := ⟨W_9_35, W_1_14, ⟨by decide +kernel, by decide +kernel⟩, by decide +kernel⟩
theorem dX12_textAt_0 : decode cX12_textAt 0 = .ok (.aload_n 0, 1) := by decide +kernel
theorem dX12_textAt_1 : decode cX12_textAt 1 = .ok (.iconst 0, 1) := by decide +kernel
theorem dX12_textAt_2 : decode cX12_textAt 2 = .ok (.putfield 3, 3) := by decide +kernel
theorem dX12_textAt_5 : decode cX12_textAt 5 = .ok (.aload_n 0, 1) := by decide +kernel
theorem dX12_textAt_6 : decode cX12_textAt 6 = .ok (.invokevirtual 403, 3) := by decide +kernel
theorem dX12_textAt_9 : decode cX12_textAt 9 = .ok (.aload_n 0, 1) := by decide +kernel
theorem dX12_textAt_10 : decode cX12_textAt 10 = .ok (.iconst 0, 1) := by decide +kernel
theorem dX12_textAt_11 : decode cX12_textAt 11 = .ok (.iconst 0, 1) := by decide +kernel
theorem dX12_textAt_12 : decode cX12_textAt 12 = .ok (.invokevirtual 430, 3) := by decide +kernel
theorem dX12_textAt_15 : decode cX12_textAt 15 = .ok (.istore_n 2, 1) := by decide +kernel
theorem dX12_textAt_16 : decode cX12_textAt 16 = .ok (.iload_n 2, 1) := by decide +kernel
theorem dX12_textAt_17 : decode cX12_textAt 17 = .ok (.ifCond .ge 5, 3) := by decide +kernel
theorem dX12_textAt_20 : decode cX12_textAt 20 = .ok (.iload_n 2, 1) := by decide +kernel
theorem dX12_textAt_21 : decode cX12_textAt 21 = .ok (.ireturn, 1) := by decide +kernel
theorem dX12_textAt_22 : decode cX12_textAt 22 = .ok (.aload_n 0, 1) := by decide +kernel
theorem dX12_textAt_23 : decode cX12_textAt 23 = .ok (.iload_n 2, 1) := by decide +kernel
theorem dX12_textAt_24 : decode cX12_textAt 24 = .ok (.iconst 0, 1) := by decide +kernel
theorem dX12_textAt_25 : decode cX12_textAt 25 = .ok (.invokevirtual 247, 3) := by decide +kernel
theorem dX12_textAt_28 : decode cX12_textAt 28 = .ok (.iconst 3, 1) := by decide +kernel
theorem dX12_textAt_29 : decode cX12_textAt 29 = .ok (.if_icmp .eq 6, 3) := by decide +kernel
theorem dX12_textAt_32 : decode cX12_textAt 32 = .ok (.bipush (-9), 2) := by decide +kernel
theorem dX12_textAt_34 : decode cX12_textAt 34 = .ok (.ireturn, 1) := by decide +kernel
theorem dX12_textAt_35 : decode cX12_textAt 35 = .ok (.iload_n 1, 1) := by decide +kernel
theorem dX12_textAt_36 : decode cX12_textAt 36 = .ok (.ifCond .lt 13, 3) := by decide +kernel
theorem dX12_textAt_39 : decode cX12_textAt 39 = .ok (.iload_n 1, 1) := by decide +kernel
theorem dX12_textAt_40 : decode cX12_textAt 40 = .ok (.aload_n 0, 1) := by decide +kernel
theorem dX12_textAt_41 : decode cX12_textAt 41 = .ok (.iload_n 2, 1) := by decide +kernel
theorem dX12_textAt_42 : decode cX12_textAt 42 = .ok (.iconst 4, 1) := by decide +kernel
theorem dX12_textAt_43 : decode cX12_textAt 43 = .ok (.invokevirtual 247, 3) := by decide +kernel
theorem dX12_textAt_46 : decode cX12_textAt 46 = .ok (.if_icmp .lt 7, 3) := by decide +kernel
theorem dX12_textAt_49 : decode cX12_textAt 49 = .ok (.iconst (-1), 1) := by decide +kernel
theorem dX12_textAt_50 : decode cX12_textAt 50 = .ok (.goto 11, 3) := by decide +kernel
theorem dX12_textAt_53 : decode cX12_textAt 53 = .ok (.aload_n 0, 1) := by decide +kernel
theorem dX12_textAt_54 : decode cX12_textAt 54 = .ok (.iload_n 2, 1) := by decide +kernel
theorem dX12_textAt_55 : decode cX12_textAt 55 = .ok (.iconst 5, 1) := by decide +kernel
theorem dX12_textAt_56 : decode cX12_textAt 56 = .ok (.iload_n 1, 1) := by decide +kernel
theorem dX12_textAt_57 : decode cX12_textAt 57 = .ok (.iadd, 1) := by decide +kernel
theorem dX12_textAt_58 : decode cX12_textAt 58 = .ok (.invokevirtual 247, 3) := by decide +kernel
theorem dX12_textAt_61 : decode cX12_textAt 61 = .ok (.ireturn, 1) := by decide +kernel
theorem dX12_textAt_62 : decode cX12_textAt 62 = .ok (.astore_n 2, 1) := by decide +kernel
theorem dX12_textAt_63 : decode cX12_textAt 63 = .ok (.aload_n 0, 1) := by decide +kernel
theorem dX12_textAt_64 : decode cX12_textAt 64 = .ok (.invokevirtual 427, 3) := by decide +kernel
theorem dX12_textAt_67 : decode cX12_textAt 67 = .ok (.ireturn, 1) := by decide +kernel
def J_X12_textAt_61 (b0 fu : Nat)  (s0 : Int32) (σ : tM) : Option ((Int32) × tM) := some (s0, σ)
def J_X12_textAt_49 (b0 fu : Nat)   (σ : tM) : Option ((Int32) × tM) := J_X12_textAt_61 b0 fu   ((-1)) (σ)
def m_X12_textAt (b0 fu : Nat) (a0 : Nat) (p0 : Int32) (σ : tM) : Option ((Int32) × tM) := grw σ (ckO b0 (σ) (a0) 11 (cly (m_X12_up b0 fu (a0) (sI (σ) (a0) 0 (0))) (fun v3 ρ4 => ckO b0 (ρ4) (a0) 11 (cll (m_X12_walkTo b0 fu (a0) (0) (0) (ρ4)) (fun v8 ρ9 => if (0) ≤ (v8) then ckO b0 (ρ9) (a0) 11 (cll (m_X12_node b0 fu (a0) (v8) (0) (ρ9)) (fun v14 ρ15 => if (v14) = (3) then if (p0) < (0) then J_X12_textAt_49 b0 fu    (ρ15) else ckO b0 (ρ15) (a0) 11 (cll (m_X12_node b0 fu (a0) (v8) (4) (ρ15)) (fun v21 ρ22 => if (p0) < (v21) then ckO b0 (ρ22) (a0) 11 (cll (m_X12_node b0 fu (a0) (v8) ((5) + (p0)) (ρ22)) (fun v27 ρ28 => J_X12_textAt_61 b0 fu   (v27) (ρ28))) else J_X12_textAt_49 b0 fu    (ρ22))) else some ((-9), ρ15))) else some (v8, ρ9)))) (fun ρ31 => ckO b0 (ρ31) (a0) 11 (cll (m_X12_off b0 fu (a0) (ρ31)) (fun v34 ρ35 => some (v34, ρ35))))))
set_option maxRecDepth 100000 in
set_option maxHeartbeats 1000000 in
theorem j_X12_textAt_61 {p : Program} {l : Launch} {e : Env} {s : State} {m : MethodId} {args : Array Value} {below : List Frame} {meth : Method} {c : Code} {D : va_G} {aC : Nat → ClassId} {b0 fu : Nat} {σ0 τ : tM} {v : Int32}  (C : tCx p l s m args meth c yX12_textAt.cls cX12_textAt 3 (some .int) D aC b0 σ0) (htab : c.exceptionTable.toList = tableOf [(5, 21, 62, 425), (22, 34, 62, 425), (35, 61, 62, 425)]) (hin : meth.name = yX12_textAt.name)  {s0 : Int32} {σ : tM} (hm : J_X12_textAt_61 b0 fu  s0 σ = some (v, τ)) : tX p l e s m args below meth c 3 9 215 D aC b0 σ0 (.inl (some (.int v))) τ 61 [] [.int (s0)] σ := by
  unfold J_X12_textAt_61 at hm
  obtain ⟨rfl, rfl⟩ := ret_e hm
  exact zx_iret C rfl rfl rfl dX12_textAt_61
set_option maxRecDepth 100000 in
set_option maxHeartbeats 1000000 in
theorem j_X12_textAt_49 {p : Program} {l : Launch} {e : Env} {s : State} {m : MethodId} {args : Array Value} {below : List Frame} {meth : Method} {c : Code} {D : va_G} {aC : Nat → ClassId} {b0 fu : Nat} {σ0 τ : tM} {v : Int32}  (C : tCx p l s m args meth c yX12_textAt.cls cX12_textAt 3 (some .int) D aC b0 σ0) (htab : c.exceptionTable.toList = tableOf [(5, 21, 62, 425), (22, 34, 62, 425), (35, 61, 62, 425)]) (hin : meth.name = yX12_textAt.name)   {σ : tM} (hm : J_X12_textAt_49 b0 fu   σ = some (v, τ)) : tX p l e s m args below meth c 3 9 215 D aC b0 σ0 (.inl (some (.int v))) τ 49 [] [] σ := by
  unfold J_X12_textAt_49 at hm
  refine zx_iconst (v := (-1)) C dX12_textAt_49 (by decide) ?_
  refine zx_goto C 61 dX12_textAt_50 (by decide) ?_
  exact zx_lv [] [] rfl (j_X12_textAt_61 C htab hin    hm)
set_option maxRecDepth 100000 in
set_option maxHeartbeats 1000000 in
theorem c_X12_textAt {l : Launch} {D : va_G} {aC : Nat → ClassId} {b0 fu : Nat} {a0 : Nat} {p0 : Int32} {σ τ : tM} {v : Int32} (hm : m_X12_textAt b0 fu a0 p0 σ = some (v, τ)) : tMt l D aC b0 yX12_textAt (Cond.codeWith yX12_textAt cX12_textAt 3 (some .int) [(5, 21, 62, 425), (22, 34, 62, 425), (35, 61, 62, 425)]) 9 215 [.ref (a0), .int (p0)] σ (.inl (some (.int v))) τ := by
  unfold m_X12_textAt at hm
  obtain ⟨hg, hm⟩ := grw_e hm
  refine tMt_ofH rfl (Nat.le_of_ble_eq_true rfl) hg ?_
  intro p e s m below meth c C htab hin
  refine zx_lv [0, 1] [(0, .ref (a0)), (1, .int (p0))] rfl ?_
  refine zx_aload_n C dX12_textAt_0 0 rfl ?_
  refine zx_iconst (v := 0) C dX12_textAt_1 (by decide) ?_
  obtain ⟨k1, i2, hm⟩ := ckO_e hm
  refine zx_put (j := 0) (ρ := sI (σ) (a0) 0 (0)) C tC_11 k1 i2 ⟨by decide, Or.inl W_6_220⟩ rfl rfl rfl (sI_ok (fun _ => rfl)) dX12_textAt_2 ?_
  refine zx_aload_n C dX12_textAt_5 0 rfl ?_
  rcases cly_e hm with ⟨v3, ρ4, h5, hm⟩ | ⟨ρ31, h5, hm⟩
  · refine zx_callV (σ := sI (σ) (a0) 0 (0)) C [] tC_11 k1 i2 Y_X12_up W_7_179 W_7_181 Wp_57 (c_X12_up h5) (by decide) (by decide) rfl (Nat.le_of_ble_eq_true rfl) dX12_textAt_6 rfl ?_
    refine zx_aload_n C dX12_textAt_9 0 rfl ?_
    refine zx_iconst (v := 0) C dX12_textAt_10 (by decide) ?_
    refine zx_iconst (v := 0) C dX12_textAt_11 (by decide) ?_
    obtain ⟨k6, i7, hm⟩ := ckO_e hm
    obtain ⟨v8, ρ9, h10, hm⟩ := cll_e hm
    refine zx_callV (σ := ρ4) C [.int (0), .int (0)] tC_11 k6 i7 Y_X12_walkTo W_8_151 W_8_153 Wp_104 (c_X12_walkTo h10) (by decide) (by decide) rfl (Nat.le_of_ble_eq_true rfl) dX12_textAt_12 rfl ?_
    refine zx_istore_n C [(2, .int (v8)), (0, .ref (a0)), (1, .int (p0))] dX12_textAt_15 rfl (by decide) rfl ?_
    refine zx_iload_n C dX12_textAt_16 0 rfl ?_
    refine zx_if_ge C 22 dX12_textAt_17 (by decide) (fun c11 => ?_) (fun c11 => ?_)
    · replace hm := ip_e hm c11
      refine zx_aload_n C dX12_textAt_22 1 rfl ?_
      refine zx_iload_n C dX12_textAt_23 0 rfl ?_
      refine zx_iconst (v := 0) C dX12_textAt_24 (by decide) ?_
      obtain ⟨k12, i13, hm⟩ := ckO_e hm
      obtain ⟨v14, ρ15, h16, hm⟩ := cll_e hm
      refine zx_callV (σ := ρ9) C [.int (v8), .int (0)] tC_11 k12 i13 Y_X12_node W_8_40 W_8_42 Wp_80 (c_X12_node h16) (by decide) (by decide) rfl (Nat.le_of_ble_eq_true rfl) dX12_textAt_25 rfl ?_
      refine zx_iconst (v := 3) C dX12_textAt_28 (by decide) ?_
      refine zx_icmp_eq C 35 dX12_textAt_29 (by decide) (fun c17 => ?_) (fun c17 => ?_)
      · replace hm := ip_e hm c17
        refine zx_iload_n C dX12_textAt_35 2 rfl ?_
        refine zx_if_lt C 49 dX12_textAt_36 (by decide) (fun c18 => ?_) (fun c18 => ?_)
        · replace hm := ip_e hm c18
          exact zx_lv [] [] rfl (j_X12_textAt_49 C htab hin    hm)
        · replace hm := in_e hm c18
          refine zx_iload_n C dX12_textAt_39 2 rfl ?_
          refine zx_aload_n C dX12_textAt_40 1 rfl ?_
          refine zx_iload_n C dX12_textAt_41 0 rfl ?_
          refine zx_iconst (v := 4) C dX12_textAt_42 (by decide) ?_
          obtain ⟨k19, i20, hm⟩ := ckO_e hm
          obtain ⟨v21, ρ22, h23, hm⟩ := cll_e hm
          refine zx_callV (σ := ρ15) C [.int (v8), .int (4)] tC_11 k19 i20 Y_X12_node W_8_40 W_8_42 Wp_80 (c_X12_node h23) (by decide) (by decide) rfl (Nat.le_of_ble_eq_true rfl) dX12_textAt_43 rfl ?_
          refine zx_icmp_lt C 53 dX12_textAt_46 (by decide) (fun c24 => ?_) (fun c24 => ?_)
          · replace hm := ip_e hm c24
            refine zx_aload_n C dX12_textAt_53 1 rfl ?_
            refine zx_iload_n C dX12_textAt_54 0 rfl ?_
            refine zx_iconst (v := 5) C dX12_textAt_55 (by decide) ?_
            refine zx_iload_n C dX12_textAt_56 2 rfl ?_
            refine zx_iadd C dX12_textAt_57 ?_
            obtain ⟨k25, i26, hm⟩ := ckO_e hm
            obtain ⟨v27, ρ28, h29, hm⟩ := cll_e hm
            refine zx_callV (σ := ρ22) C [.int (v8), .int ((5) + (p0))] tC_11 k25 i26 Y_X12_node W_8_40 W_8_42 Wp_80 (c_X12_node h29) (by decide) (by decide) rfl (Nat.le_of_ble_eq_true rfl) dX12_textAt_58 rfl ?_
            exact zx_lv [] [] rfl (j_X12_textAt_61 C htab hin    hm)
          · replace hm := in_e hm c24
            exact zx_lv [] [] rfl (j_X12_textAt_49 C htab hin    hm)
      · replace hm := in_e hm c17
        refine zx_bipush (v := (-9)) C dX12_textAt_32 (by decide) ?_
        obtain ⟨rfl, rfl⟩ := ret_e hm
        exact zx_iret C rfl rfl rfl dX12_textAt_34
    · replace hm := in_e hm c11
      refine zx_iload_n C dX12_textAt_20 0 rfl ?_
      obtain ⟨rfl, rfl⟩ := ret_e hm
      exact zx_iret C rfl rfl rfl dX12_textAt_21
  · refine zx_catchV (σ := sI (σ) (a0) 0 (0)) (x9 := { startPc := 5, endPc := 21, handlerPc := 62, catchType := 425 }) C (tableOf []) (tableOf [(22, 34, 62, 425), (35, 61, 62, 425)]) htab (by decide) (by decide) (by decide) (E := "SyncTreeModel$Off") W_7_174 W_9_132 [] tC_11 k1 i2 Y_X12_up W_7_179 W_7_181 Wp_57 (c_X12_up h5) (by decide) (by decide) rfl (Nat.le_of_ble_eq_true rfl) dX12_textAt_6 rfl (fun q30 => ?_)
    refine zx_astore_n C [(2, .ref (q30)), (0, .ref (a0)), (1, .int (p0))] dX12_textAt_62 rfl (by decide) rfl ?_
    refine zx_aload_n C dX12_textAt_63 1 rfl ?_
    obtain ⟨k32, i33, hm⟩ := ckO_e hm
    obtain ⟨v34, ρ35, h36, hm⟩ := cll_e hm
    refine zx_callV (σ := ρ31) C [] tC_11 k32 i33 Y_X12_off W_8_135 W_8_137 Wp_103 (c_X12_off h36) (by decide) (by decide) rfl (Nat.le_of_ble_eq_true rfl) dX12_textAt_64 rfl ?_
    obtain ⟨rfl, rfl⟩ := ret_e hm
    exact zx_iret C rfl rfl rfl dX12_textAt_67
abbrev cX12_blockOf : ByteArray := prog_13_method_99_code
def yX12_blockOf : MethodName := ⟨"SyncTreeModel", "blockOf", "(II)I"⟩
theorem Y_X12_blockOf : tYH yX12_blockOf cX12_blockOf 4 (some .int) [(5, 30, 59, 425), (31, 58, 59, 425)] 2 := ⟨W_9_39, W_1_14, ⟨by decide +kernel, by decide +kernel⟩, by decide +kernel⟩
theorem dX12_blockOf_0 : decode cX12_blockOf 0 = .ok (.aload_n 0, 1) := by decide +kernel
theorem dX12_blockOf_1 : decode cX12_blockOf 1 = .ok (.iconst 0, 1) := by decide +kernel
theorem dX12_blockOf_2 : decode cX12_blockOf 2 = .ok (.putfield 3, 3) := by decide +kernel
theorem dX12_blockOf_5 : decode cX12_blockOf 5 = .ok (.aload_n 0, 1) := by decide +kernel
theorem dX12_blockOf_6 : decode cX12_blockOf 6 = .ok (.invokevirtual 403, 3) := by decide +kernel
theorem dX12_blockOf_9 : decode cX12_blockOf 9 = .ok (.aload_n 0, 1) := by decide +kernel
theorem dX12_blockOf_10 : decode cX12_blockOf 10 = .ok (.iload_n 1, 1) := by decide +kernel
theorem dX12_blockOf_11 : decode cX12_blockOf 11 = .ok (.invokevirtual 446, 3) := by decide +kernel
theorem dX12_blockOf_14 : decode cX12_blockOf 14 = .ok (.ifCond .eq 14, 3) := by decide +kernel
theorem dX12_blockOf_17 : decode cX12_blockOf 17 = .ok (.iload_n 2, 1) := by decide +kernel
theorem dX12_blockOf_18 : decode cX12_blockOf 18 = .ok (.ifCond .lt 10, 3) := by decide +kernel
theorem dX12_blockOf_21 : decode cX12_blockOf 21 = .ok (.iload_n 2, 1) := by decide +kernel
theorem dX12_blockOf_22 : decode cX12_blockOf 22 = .ok (.sipush 1063, 3) := by decide +kernel
theorem dX12_blockOf_25 : decode cX12_blockOf 25 = .ok (.if_icmp .le 6, 3) := by decide +kernel
theorem dX12_blockOf_28 : decode cX12_blockOf 28 = .ok (.bipush (-9), 2) := by decide +kernel
theorem dX12_blockOf_30 : decode cX12_blockOf 30 = .ok (.ireturn, 1) := by decide +kernel
theorem dX12_blockOf_31 : decode cX12_blockOf 31 = .ok (.aload_n 0, 1) := by decide +kernel
theorem dX12_blockOf_32 : decode cX12_blockOf 32 = .ok (.aload_n 0, 1) := by decide +kernel
theorem dX12_blockOf_33 : decode cX12_blockOf 33 = .ok (.getfield 286, 3) := by decide +kernel
theorem dX12_blockOf_36 : decode cX12_blockOf 36 = .ok (.iload_n 1, 1) := by decide +kernel
theorem dX12_blockOf_37 : decode cX12_blockOf 37 = .ok (.iaload, 1) := by decide +kernel
theorem dX12_blockOf_38 : decode cX12_blockOf 38 = .ok (.iload_n 2, 1) := by decide +kernel
theorem dX12_blockOf_39 : decode cX12_blockOf 39 = .ok (.invokevirtual 259, 3) := by decide +kernel
theorem dX12_blockOf_42 : decode cX12_blockOf 42 = .ok (.istore_n 3, 1) := by decide +kernel
theorem dX12_blockOf_43 : decode cX12_blockOf 43 = .ok (.iload_n 3, 1) := by decide +kernel
theorem dX12_blockOf_44 : decode cX12_blockOf 44 = .ok (.ifCond .ne 7, 3) := by decide +kernel
theorem dX12_blockOf_47 : decode cX12_blockOf 47 = .ok (.iconst 0, 1) := by decide +kernel
theorem dX12_blockOf_48 : decode cX12_blockOf 48 = .ok (.goto 10, 3) := by decide +kernel
theorem dX12_blockOf_51 : decode cX12_blockOf 51 = .ok (.aload_n 0, 1) := by decide +kernel
theorem dX12_blockOf_52 : decode cX12_blockOf 52 = .ok (.iload_n 3, 1) := by decide +kernel
theorem dX12_blockOf_53 : decode cX12_blockOf 53 = .ok (.iconst 1, 1) := by decide +kernel
theorem dX12_blockOf_54 : decode cX12_blockOf 54 = .ok (.isub, 1) := by decide +kernel
theorem dX12_blockOf_55 : decode cX12_blockOf 55 = .ok (.invokevirtual 240, 3) := by decide +kernel
theorem dX12_blockOf_58 : decode cX12_blockOf 58 = .ok (.ireturn, 1) := by decide +kernel
theorem dX12_blockOf_59 : decode cX12_blockOf 59 = .ok (.astore_n 3, 1) := by decide +kernel
theorem dX12_blockOf_60 : decode cX12_blockOf 60 = .ok (.aload_n 0, 1) := by decide +kernel
theorem dX12_blockOf_61 : decode cX12_blockOf 61 = .ok (.invokevirtual 427, 3) := by decide +kernel
theorem dX12_blockOf_64 : decode cX12_blockOf 64 = .ok (.ireturn, 1) := by decide +kernel
def J_X12_blockOf_28 (b0 fu : Nat)   (σ : tM) : Option ((Int32) × tM) := some ((-9), σ)
def J_X12_blockOf_58 (b0 fu : Nat)  (s0 : Int32) (σ : tM) : Option ((Int32) × tM) := some (s0, σ)
def m_X12_blockOf (b0 fu : Nat) (a0 : Nat) (p0 : Int32) (p1 : Int32) (σ : tM) : Option ((Int32) × tM) := grw σ (ckO b0 (σ) (a0) 11 (cly (m_X12_up b0 fu (a0) (sI (σ) (a0) 0 (0))) (fun v3 ρ4 => ckO b0 (ρ4) (a0) 11 (cll (m_X12_isHandle b0 fu (a0) (p0) (ρ4)) (fun v8 ρ9 => if (v8) = (0) then J_X12_blockOf_28 b0 fu    (ρ9) else if (p1) < (0) then J_X12_blockOf_28 b0 fu    (ρ9) else if (p1) ≤ (1063) then ckO b0 (ρ9) (a0) 11 (osm (tA (ρ9) (a0) 58) (fun a16 => ckR b0 (ρ9) (a16) 0 (fun n20 => ckI (p0) (n20) (cll (m_X12_has b0 fu (a0) (tI (ρ9) (a16) ((p0).toNatClampNeg)) (p1) (ρ9)) (fun v22 ρ23 => if (v22) = (0) then J_X12_blockOf_58 b0 fu   (0) (ρ23) else ckO b0 (ρ23) (a0) 11 (cll (m_X12_numberOf b0 fu (a0) ((v22) - (1)) (ρ23)) (fun v28 ρ29 => J_X12_blockOf_58 b0 fu   (v28) (ρ29)))))))) else J_X12_blockOf_28 b0 fu    (ρ9)))) (fun ρ32 => ckO b0 (ρ32) (a0) 11 (cll (m_X12_off b0 fu (a0) (ρ32)) (fun v35 ρ36 => some (v35, ρ36))))))
set_option maxRecDepth 100000 in
set_option maxHeartbeats 1000000 in
theorem j_X12_blockOf_28 {p : Program} {l : Launch} {e : Env} {s : State} {m : MethodId} {args : Array Value} {below : List Frame} {meth : Method} {c : Code} {D : va_G} {aC : Nat → ClassId} {b0 fu : Nat} {σ0 τ : tM} {v : Int32}  (C : tCx p l s m args meth c yX12_blockOf.cls cX12_blockOf 4 (some .int) D aC b0 σ0) (htab : c.exceptionTable.toList = tableOf [(5, 30, 59, 425), (31, 58, 59, 425)]) (hin : meth.name = yX12_blockOf.name)   {σ : tM} (hm : J_X12_blockOf_28 b0 fu   σ = some (v, τ)) : tX p l e s m args below meth c 4 4 89 D aC b0 σ0 (.inl (some (.int v))) τ 28 [] [] σ := by
  unfold J_X12_blockOf_28 at hm
  refine zx_bipush (v := (-9)) C dX12_blockOf_28 (by decide) ?_
  obtain ⟨rfl, rfl⟩ := ret_e hm
  exact zx_iret C rfl rfl rfl dX12_blockOf_30
set_option maxRecDepth 100000 in
set_option maxHeartbeats 1000000 in
theorem j_X12_blockOf_58 {p : Program} {l : Launch} {e : Env} {s : State} {m : MethodId} {args : Array Value} {below : List Frame} {meth : Method} {c : Code} {D : va_G} {aC : Nat → ClassId} {b0 fu : Nat} {σ0 τ : tM} {v : Int32}  (C : tCx p l s m args meth c yX12_blockOf.cls cX12_blockOf 4 (some .int) D aC b0 σ0) (htab : c.exceptionTable.toList = tableOf [(5, 30, 59, 425), (31, 58, 59, 425)]) (hin : meth.name = yX12_blockOf.name)  {s0 : Int32} {σ : tM} (hm : J_X12_blockOf_58 b0 fu  s0 σ = some (v, τ)) : tX p l e s m args below meth c 4 4 89 D aC b0 σ0 (.inl (some (.int v))) τ 58 [] [.int (s0)] σ := by
  unfold J_X12_blockOf_58 at hm
  obtain ⟨rfl, rfl⟩ := ret_e hm
  exact zx_iret C rfl rfl rfl dX12_blockOf_58
set_option maxRecDepth 100000 in
set_option maxHeartbeats 1000000 in
theorem c_X12_blockOf {l : Launch} {D : va_G} {aC : Nat → ClassId} {b0 fu : Nat} {a0 : Nat} {p0 : Int32} {p1 : Int32} {σ τ : tM} {v : Int32} (hm : m_X12_blockOf b0 fu a0 p0 p1 σ = some (v, τ)) : tMt l D aC b0 yX12_blockOf (Cond.codeWith yX12_blockOf cX12_blockOf 4 (some .int) [(5, 30, 59, 425), (31, 58, 59, 425)]) 4 89 [.ref (a0), .int (p0), .int (p1)] σ (.inl (some (.int v))) τ := by
  unfold m_X12_blockOf at hm
  obtain ⟨hg, hm⟩ := grw_e hm
  refine tMt_ofH rfl (Nat.le_of_ble_eq_true rfl) hg ?_
  intro p e s m below meth c C htab hin
  refine zx_lv [0, 1, 2] [(0, .ref (a0)), (1, .int (p0)), (2, .int (p1))] rfl ?_
  refine zx_aload_n C dX12_blockOf_0 0 rfl ?_
  refine zx_iconst (v := 0) C dX12_blockOf_1 (by decide) ?_
  obtain ⟨k1, i2, hm⟩ := ckO_e hm
  refine zx_put (j := 0) (ρ := sI (σ) (a0) 0 (0)) C tC_11 k1 i2 ⟨by decide, Or.inl W_6_220⟩ rfl rfl rfl (sI_ok (fun _ => rfl)) dX12_blockOf_2 ?_
  refine zx_aload_n C dX12_blockOf_5 0 rfl ?_
  rcases cly_e hm with ⟨v3, ρ4, h5, hm⟩ | ⟨ρ32, h5, hm⟩
  · refine zx_callV (σ := sI (σ) (a0) 0 (0)) C [] tC_11 k1 i2 Y_X12_up W_7_179 W_7_181 Wp_57 (c_X12_up h5) (by decide) (by decide) rfl (Nat.le_of_ble_eq_true rfl) dX12_blockOf_6 rfl ?_
    refine zx_aload_n C dX12_blockOf_9 0 rfl ?_
    refine zx_iload_n C dX12_blockOf_10 1 rfl ?_
    obtain ⟨k6, i7, hm⟩ := ckO_e hm
    obtain ⟨v8, ρ9, h10, hm⟩ := cll_e hm
    refine zx_callV (σ := ρ4) C [.int (p0)] tC_11 k6 i7 Y_X12_isHandle W_8_221 W_8_223 Wp_116 (c_X12_isHandle h10) (by decide) (by decide) rfl (Nat.le_of_ble_eq_true rfl) dX12_blockOf_11 rfl ?_
    refine zx_if_eq C 28 dX12_blockOf_14 (by decide) (fun c11 => ?_) (fun c11 => ?_)
    · replace hm := ip_e hm c11
      exact zx_lv [] [] rfl (j_X12_blockOf_28 C htab hin    hm)
    · replace hm := in_e hm c11
      refine zx_iload_n C dX12_blockOf_17 2 rfl ?_
      refine zx_if_lt C 28 dX12_blockOf_18 (by decide) (fun c12 => ?_) (fun c12 => ?_)
      · replace hm := ip_e hm c12
        exact zx_lv [] [] rfl (j_X12_blockOf_28 C htab hin    hm)
      · replace hm := in_e hm c12
        refine zx_iload_n C dX12_blockOf_21 2 rfl ?_
        refine zx_sipush (v := 1063) C dX12_blockOf_22 (by decide) ?_
        refine zx_icmp_le C 31 dX12_blockOf_25 (by decide) (fun c13 => ?_) (fun c13 => ?_)
        · replace hm := ip_e hm c13
          refine zx_aload_n C dX12_blockOf_31 0 rfl ?_
          refine zx_aload_n C dX12_blockOf_32 0 rfl ?_
          obtain ⟨k14, i15, hm⟩ := ckO_e hm
          obtain ⟨a16, h17, hm⟩ := osm_e hm
          refine zx_get (j := 58) C tC_11 k14 i15 ⟨by decide, Or.inl W_7_37⟩ dX12_blockOf_33 (.ref a16) (rf_s h17) ?_
          refine zx_iload_n C dX12_blockOf_36 1 rfl ?_
          obtain ⟨n20, k18, i19, hm⟩ := ckR_e hm
          obtain ⟨h21, hm⟩ := ckI_e hm
          refine zx_iald C k18 i19 h21 dX12_blockOf_37 ?_
          refine zx_iload_n C dX12_blockOf_38 2 rfl ?_
          obtain ⟨v22, ρ23, h24, hm⟩ := cll_e hm
          refine zx_callV (σ := ρ9) C [.int (tI (ρ9) (a16) ((p0).toNatClampNeg)), .int (p1)] tC_11 k14 i15 Y_X12_has W_8_60 W_8_62 Wp_85 (c_X12_has h24) (by decide) (by decide) rfl (Nat.le_of_ble_eq_true rfl) dX12_blockOf_39 rfl ?_
          refine zx_istore_n C [(3, .int (v22)), (0, .ref (a0)), (1, .int (p0)), (2, .int (p1))] dX12_blockOf_42 rfl (by decide) rfl ?_
          refine zx_iload_n C dX12_blockOf_43 0 rfl ?_
          refine zx_if_ne C 51 dX12_blockOf_44 (by decide) (fun c25 => ?_) (fun c25 => ?_)
          · replace hm := in_e hm c25
            refine zx_aload_n C dX12_blockOf_51 1 rfl ?_
            refine zx_iload_n C dX12_blockOf_52 0 rfl ?_
            refine zx_iconst (v := 1) C dX12_blockOf_53 (by decide) ?_
            refine zx_isub C dX12_blockOf_54 ?_
            obtain ⟨k26, i27, hm⟩ := ckO_e hm
            obtain ⟨v28, ρ29, h30, hm⟩ := cll_e hm
            refine zx_callV (σ := ρ23) C [.int ((v22) - (1))] tC_11 k26 i27 Y_X12_numberOf W_8_123 W_8_125 Wp_100 (c_X12_numberOf h30) (by decide) (by decide) rfl (Nat.le_of_ble_eq_true rfl) dX12_blockOf_55 rfl ?_
            exact zx_lv [] [] rfl (j_X12_blockOf_58 C htab hin    hm)
          · replace hm := ip_e hm c25
            refine zx_iconst (v := 0) C dX12_blockOf_47 (by decide) ?_
            refine zx_goto C 58 dX12_blockOf_48 (by decide) ?_
            exact zx_lv [] [] rfl (j_X12_blockOf_58 C htab hin    hm)
        · replace hm := in_e hm c13
          exact zx_lv [] [] rfl (j_X12_blockOf_28 C htab hin    hm)
  · refine zx_catchV (σ := sI (σ) (a0) 0 (0)) (x9 := { startPc := 5, endPc := 30, handlerPc := 59, catchType := 425 }) C (tableOf []) (tableOf [(31, 58, 59, 425)]) htab (by decide) (by decide) (by decide) (E := "SyncTreeModel$Off") W_7_174 W_9_132 [] tC_11 k1 i2 Y_X12_up W_7_179 W_7_181 Wp_57 (c_X12_up h5) (by decide) (by decide) rfl (Nat.le_of_ble_eq_true rfl) dX12_blockOf_6 rfl (fun q31 => ?_)
    refine zx_astore_n C [(3, .ref (q31)), (0, .ref (a0)), (1, .int (p0)), (2, .int (p1))] dX12_blockOf_59 rfl (by decide) rfl ?_
    refine zx_aload_n C dX12_blockOf_60 1 rfl ?_
    obtain ⟨k33, i34, hm⟩ := ckO_e hm
    obtain ⟨v35, ρ36, h37, hm⟩ := cll_e hm
    refine zx_callV (σ := ρ32) C [] tC_11 k33 i34 Y_X12_off W_8_135 W_8_137 Wp_103 (c_X12_off h37) (by decide) (by decide) rfl (Nat.le_of_ble_eq_true rfl) dX12_blockOf_61 rfl ?_
    obtain ⟨rfl, rfl⟩ := ret_e hm
    exact zx_iret C rfl rfl rfl dX12_blockOf_64
abbrev cX12_writeBack : ByteArray := prog_13_method_105_code
def yX12_writeBack : MethodName := ⟨"SyncTreeModel", "writeBack", "(I)I"⟩
theorem Y_X12_writeBack : tYH yX12_writeBack cX12_writeBack 3 (some .int) [(5, 24, 25, 425)] 1 := ⟨W_9_63, W_1_14, ⟨by decide +kernel, by decide +kernel⟩, by decide +kernel⟩
theorem dX12_writeBack_0 : decode cX12_writeBack 0 = .ok (.aload_n 0, 1) := by decide +kernel
theorem dX12_writeBack_1 : decode cX12_writeBack 1 = .ok (.iconst 0, 1) := by decide +kernel
theorem dX12_writeBack_2 : decode cX12_writeBack 2 = .ok (.putfield 3, 3) := by decide +kernel
theorem dX12_writeBack_5 : decode cX12_writeBack 5 = .ok (.aload_n 0, 1) := by decide +kernel
theorem dX12_writeBack_6 : decode cX12_writeBack 6 = .ok (.invokevirtual 403, 3) := by decide +kernel
theorem dX12_writeBack_9 : decode cX12_writeBack 9 = .ok (.iload_n 1, 1) := by decide +kernel
theorem dX12_writeBack_10 : decode cX12_writeBack 10 = .ok (.ifCond .ge 8, 3) := by decide +kernel
theorem dX12_writeBack_13 : decode cX12_writeBack 13 = .ok (.bipush (-9), 2) := by decide +kernel
theorem dX12_writeBack_15 : decode cX12_writeBack 15 = .ok (.goto 9, 3) := by decide +kernel
theorem dX12_writeBack_18 : decode cX12_writeBack 18 = .ok (.aload_n 0, 1) := by decide +kernel
theorem dX12_writeBack_19 : decode cX12_writeBack 19 = .ok (.iconst (-1), 1) := by decide +kernel
theorem dX12_writeBack_20 : decode cX12_writeBack 20 = .ok (.iload_n 1, 1) := by decide +kernel
theorem dX12_writeBack_21 : decode cX12_writeBack 21 = .ok (.invokevirtual 465, 3) := by decide +kernel
theorem dX12_writeBack_24 : decode cX12_writeBack 24 = .ok (.ireturn, 1) := by decide +kernel
theorem dX12_writeBack_25 : decode cX12_writeBack 25 = .ok (.astore_n 2, 1) := by decide +kernel
theorem dX12_writeBack_26 : decode cX12_writeBack 26 = .ok (.aload_n 0, 1) := by decide +kernel
theorem dX12_writeBack_27 : decode cX12_writeBack 27 = .ok (.invokevirtual 427, 3) := by decide +kernel
theorem dX12_writeBack_30 : decode cX12_writeBack 30 = .ok (.ireturn, 1) := by decide +kernel
def J_X12_writeBack_24 (b0 fu : Nat)  (s0 : Int32) (σ : tM) : Option ((Int32) × tM) := some (s0, σ)
def m_X12_writeBack (b0 fu : Nat) (a0 : Nat) (p0 : Int32) (σ : tM) : Option ((Int32) × tM) := grw σ (ckO b0 (σ) (a0) 11 (cly (m_X12_up b0 fu (a0) (sI (σ) (a0) 0 (0))) (fun v3 ρ4 => if (0) ≤ (p0) then ckO b0 (ρ4) (a0) 11 (cly (m_X12_writeDirty b0 fu (a0) ((-1)) (p0) (ρ4)) (fun v9 ρ10 => J_X12_writeBack_24 b0 fu   (v9) (ρ10)) (fun ρ13 => ckO b0 (ρ13) (a0) 11 (cll (m_X12_off b0 fu (a0) (ρ13)) (fun v16 ρ17 => some (v16, ρ17))))) else J_X12_writeBack_24 b0 fu   ((-9)) (ρ4)) (fun ρ20 => ckO b0 (ρ20) (a0) 11 (cll (m_X12_off b0 fu (a0) (ρ20)) (fun v23 ρ24 => some (v23, ρ24))))))
set_option maxRecDepth 100000 in
set_option maxHeartbeats 1000000 in
theorem j_X12_writeBack_24 {p : Program} {l : Launch} {e : Env} {s : State} {m : MethodId} {args : Array Value} {below : List Frame} {meth : Method} {c : Code} {D : va_G} {aC : Nat → ClassId} {b0 fu : Nat} {σ0 τ : tM} {v : Int32}  (C : tCx p l s m args meth c yX12_writeBack.cls cX12_writeBack 3 (some .int) D aC b0 σ0) (htab : c.exceptionTable.toList = tableOf [(5, 24, 25, 425)]) (hin : meth.name = yX12_writeBack.name)  {s0 : Int32} {σ : tM} (hm : J_X12_writeBack_24 b0 fu  s0 σ = some (v, τ)) : tX p l e s m args below meth c 3 5 117 D aC b0 σ0 (.inl (some (.int v))) τ 24 [] [.int (s0)] σ := by
  unfold J_X12_writeBack_24 at hm
  obtain ⟨rfl, rfl⟩ := ret_e hm
  exact zx_iret C rfl rfl rfl dX12_writeBack_24
set_option maxRecDepth 100000 in
set_option maxHeartbeats 1000000 in
theorem c_X12_writeBack {l : Launch} {D : va_G} {aC : Nat → ClassId} {b0 fu : Nat} {a0 : Nat} {p0 : Int32} {σ τ : tM} {v : Int32} (hm : m_X12_writeBack b0 fu a0 p0 σ = some (v, τ)) : tMt l D aC b0 yX12_writeBack (Cond.codeWith yX12_writeBack cX12_writeBack 3 (some .int) [(5, 24, 25, 425)]) 5 117 [.ref (a0), .int (p0)] σ (.inl (some (.int v))) τ := by
  unfold m_X12_writeBack at hm
  obtain ⟨hg, hm⟩ := grw_e hm
  refine tMt_ofH rfl (Nat.le_of_ble_eq_true rfl) hg ?_
  intro p e s m below meth c C htab hin
  refine zx_lv [0, 1] [(0, .ref (a0)), (1, .int (p0))] rfl ?_
  refine zx_aload_n C dX12_writeBack_0 0 rfl ?_
  refine zx_iconst (v := 0) C dX12_writeBack_1 (by decide) ?_
  obtain ⟨k1, i2, hm⟩ := ckO_e hm
  refine zx_put (j := 0) (ρ := sI (σ) (a0) 0 (0)) C tC_11 k1 i2 ⟨by decide, Or.inl W_6_220⟩ rfl rfl rfl (sI_ok (fun _ => rfl)) dX12_writeBack_2 ?_
  refine zx_aload_n C dX12_writeBack_5 0 rfl ?_
  rcases cly_e hm with ⟨v3, ρ4, h5, hm⟩ | ⟨ρ20, h5, hm⟩
  · refine zx_callV (σ := sI (σ) (a0) 0 (0)) C [] tC_11 k1 i2 Y_X12_up W_7_179 W_7_181 Wp_57 (c_X12_up h5) (by decide) (by decide) rfl (Nat.le_of_ble_eq_true rfl) dX12_writeBack_6 rfl ?_
    refine zx_iload_n C dX12_writeBack_9 1 rfl ?_
    refine zx_if_ge C 18 dX12_writeBack_10 (by decide) (fun c6 => ?_) (fun c6 => ?_)
    · replace hm := ip_e hm c6
      refine zx_aload_n C dX12_writeBack_18 0 rfl ?_
      refine zx_iconst (v := (-1)) C dX12_writeBack_19 (by decide) ?_
      refine zx_iload_n C dX12_writeBack_20 1 rfl ?_
      obtain ⟨k7, i8, hm⟩ := ckO_e hm
      rcases cly_e hm with ⟨v9, ρ10, h11, hm⟩ | ⟨ρ13, h11, hm⟩
      · refine zx_callV (σ := ρ4) C [.int ((-1)), .int (p0)] tC_11 k7 i8 Y_X12_writeDirty W_9_44 W_9_46 Wp_120 (c_X12_writeDirty h11) (by decide) (by decide) rfl (Nat.le_of_ble_eq_true rfl) dX12_writeBack_21 rfl ?_
        exact zx_lv [] [] rfl (j_X12_writeBack_24 C htab hin    hm)
      · refine zx_catchV (σ := ρ4) (x9 := { startPc := 5, endPc := 24, handlerPc := 25, catchType := 425 }) C (tableOf []) (tableOf []) htab (by decide) (by decide) (by decide) (E := "SyncTreeModel$Off") W_7_174 W_9_132 [.int ((-1)), .int (p0)] tC_11 k7 i8 Y_X12_writeDirty W_9_44 W_9_46 Wp_120 (c_X12_writeDirty h11) (by decide) (by decide) rfl (Nat.le_of_ble_eq_true rfl) dX12_writeBack_21 rfl (fun q12 => ?_)
        refine zx_astore_n C [(2, .ref (q12)), (0, .ref (a0)), (1, .int (p0))] dX12_writeBack_25 rfl (by decide) rfl ?_
        refine zx_aload_n C dX12_writeBack_26 1 rfl ?_
        obtain ⟨k14, i15, hm⟩ := ckO_e hm
        obtain ⟨v16, ρ17, h18, hm⟩ := cll_e hm
        refine zx_callV (σ := ρ13) C [] tC_11 k14 i15 Y_X12_off W_8_135 W_8_137 Wp_103 (c_X12_off h18) (by decide) (by decide) rfl (Nat.le_of_ble_eq_true rfl) dX12_writeBack_27 rfl ?_
        obtain ⟨rfl, rfl⟩ := ret_e hm
        exact zx_iret C rfl rfl rfl dX12_writeBack_30
    · replace hm := in_e hm c6
      refine zx_bipush (v := (-9)) C dX12_writeBack_13 (by decide) ?_
      refine zx_goto C 24 dX12_writeBack_15 (by decide) ?_
      exact zx_lv [] [] rfl (j_X12_writeBack_24 C htab hin    hm)
  · refine zx_catchV (σ := sI (σ) (a0) 0 (0)) (x9 := { startPc := 5, endPc := 24, handlerPc := 25, catchType := 425 }) C (tableOf []) (tableOf []) htab (by decide) (by decide) (by decide) (E := "SyncTreeModel$Off") W_7_174 W_9_132 [] tC_11 k1 i2 Y_X12_up W_7_179 W_7_181 Wp_57 (c_X12_up h5) (by decide) (by decide) rfl (Nat.le_of_ble_eq_true rfl) dX12_writeBack_6 rfl (fun q19 => ?_)
    refine zx_astore_n C [(2, .ref (q19)), (0, .ref (a0)), (1, .int (p0))] dX12_writeBack_25 rfl (by decide) rfl ?_
    refine zx_aload_n C dX12_writeBack_26 1 rfl ?_
    obtain ⟨k21, i22, hm⟩ := ckO_e hm
    obtain ⟨v23, ρ24, h25, hm⟩ := cll_e hm
    refine zx_callV (σ := ρ20) C [] tC_11 k21 i22 Y_X12_off W_8_135 W_8_137 Wp_103 (c_X12_off h25) (by decide) (by decide) rfl (Nat.le_of_ble_eq_true rfl) dX12_writeBack_27 rfl ?_
    obtain ⟨rfl, rfl⟩ := ret_e hm
    exact zx_iret C rfl rfl rfl dX12_writeBack_30
abbrev cX12_apply : ByteArray := prog_13_method_106_code
def yX12_apply : MethodName := ⟨"SyncTreeModel", "apply", "(I)I"⟩
theorem Y_X12_apply : tYH yX12_apply cX12_apply 3 (some .int) [(5, 15, 46, 425), (16, 45, 46, 425)] 1 := ⟨W_9_67, W_1_14, ⟨by decide +kernel, by decide +kernel⟩, by decide +kernel⟩
theorem dX12_apply_0 : decode cX12_apply 0 = .ok (.aload_n 0, 1) := by decide +kernel
theorem dX12_apply_1 : decode cX12_apply 1 = .ok (.iconst 0, 1) := by decide +kernel
theorem dX12_apply_2 : decode cX12_apply 2 = .ok (.putfield 3, 3) := by decide +kernel
theorem dX12_apply_5 : decode cX12_apply 5 = .ok (.aload_n 0, 1) := by decide +kernel
theorem dX12_apply_6 : decode cX12_apply 6 = .ok (.invokevirtual 403, 3) := by decide +kernel
theorem dX12_apply_9 : decode cX12_apply 9 = .ok (.iload_n 1, 1) := by decide +kernel
theorem dX12_apply_10 : decode cX12_apply 10 = .ok (.ifCond .ge 6, 3) := by decide +kernel
theorem dX12_apply_13 : decode cX12_apply 13 = .ok (.bipush (-9), 2) := by decide +kernel
theorem dX12_apply_15 : decode cX12_apply 15 = .ok (.ireturn, 1) := by decide +kernel
theorem dX12_apply_16 : decode cX12_apply 16 = .ok (.iconst 0, 1) := by decide +kernel
theorem dX12_apply_17 : decode cX12_apply 17 = .ok (.istore_n 2, 1) := by decide +kernel
theorem dX12_apply_18 : decode cX12_apply 18 = .ok (.iload_n 2, 1) := by decide +kernel
theorem dX12_apply_19 : decode cX12_apply 19 = .ok (.iload_n 1, 1) := by decide +kernel
theorem dX12_apply_20 : decode cX12_apply 20 = .ok (.if_icmp .ge 24, 3) := by decide +kernel
theorem dX12_apply_23 : decode cX12_apply 23 = .ok (.aload_n 0, 1) := by decide +kernel
theorem dX12_apply_24 : decode cX12_apply 24 = .ok (.getfield 208, 3) := by decide +kernel
theorem dX12_apply_27 : decode cX12_apply 27 = .ok (.aload_n 0, 1) := by decide +kernel
theorem dX12_apply_28 : decode cX12_apply 28 = .ok (.getfield 199, 3) := by decide +kernel
theorem dX12_apply_31 : decode cX12_apply 31 = .ok (.if_icmp .ge 13, 3) := by decide +kernel
theorem dX12_apply_34 : decode cX12_apply 34 = .ok (.aload_n 0, 1) := by decide +kernel
theorem dX12_apply_35 : decode cX12_apply 35 = .ok (.invokevirtual 227, 3) := by decide +kernel
theorem dX12_apply_38 : decode cX12_apply 38 = .ok (.iinc 2 1, 3) := by decide +kernel
theorem dX12_apply_41 : decode cX12_apply 41 = .ok (.goto (-23), 3) := by decide +kernel
theorem dX12_apply_44 : decode cX12_apply 44 = .ok (.iload_n 2, 1) := by decide +kernel
theorem dX12_apply_45 : decode cX12_apply 45 = .ok (.ireturn, 1) := by decide +kernel
theorem dX12_apply_46 : decode cX12_apply 46 = .ok (.astore_n 2, 1) := by decide +kernel
theorem dX12_apply_47 : decode cX12_apply 47 = .ok (.aload_n 0, 1) := by decide +kernel
theorem dX12_apply_48 : decode cX12_apply 48 = .ok (.invokevirtual 427, 3) := by decide +kernel
theorem dX12_apply_51 : decode cX12_apply 51 = .ok (.ireturn, 1) := by decide +kernel
def J_X12_apply_44 (b0 fu : Nat)  (x2 : Int32) (σ : tM) : Option ((Int32) × tM) := some (x2, σ)
def L_X12_apply_18 (b0 fu : Nat)  : Nat → Nat → Int32 → Int32 → tM → Option ((Int32) × tM)
  | 0, _, _, _, _ => none
  | n + 1, x0, x1, x2, σ => ltb (L_X12_apply_18 b0 fu  n) (fun rc18 => if (x1) ≤ (x2) then J_X12_apply_44 b0 fu   (x2) (σ) else ckO b0 (σ) (x0) 11 (if (tI (σ) (x0) 29) ≤ (tI (σ) (x0) 30) then J_X12_apply_44 b0 fu   (x2) (σ) else cly (m_X12_applyOne b0 fu (x0) (σ)) (fun v11 ρ12 => ltb ((x2) + Int32.ofInt 1) (fun y14 => rc18 (x0) (x1) (y14) (ρ12))) (fun ρ16 => ckO b0 (ρ16) (x0) 11 (cll (m_X12_off b0 fu (x0) (ρ16)) (fun v19 ρ20 => some (v19, ρ20))))))
def m_X12_apply (b0 fu : Nat) (a0 : Nat) (p0 : Int32) (σ : tM) : Option ((Int32) × tM) := grw σ (ckO b0 (σ) (a0) 11 (cly (m_X12_up b0 fu (a0) (sI (σ) (a0) 0 (0))) (fun v3 ρ4 => if (0) ≤ (p0) then L_X12_apply_18 b0 fu  (fu) (a0) (p0) (0) (ρ4) else some ((-9), ρ4)) (fun ρ23 => ckO b0 (ρ23) (a0) 11 (cll (m_X12_off b0 fu (a0) (ρ23)) (fun v26 ρ27 => some (v26, ρ27))))))
set_option maxRecDepth 100000 in
set_option maxHeartbeats 1000000 in
theorem j_X12_apply_44 {p : Program} {l : Launch} {e : Env} {s : State} {m : MethodId} {args : Array Value} {below : List Frame} {meth : Method} {c : Code} {D : va_G} {aC : Nat → ClassId} {b0 fu : Nat} {σ0 τ : tM} {v : Int32}  (C : tCx p l s m args meth c yX12_apply.cls cX12_apply 3 (some .int) D aC b0 σ0) (htab : c.exceptionTable.toList = tableOf [(5, 15, 46, 425), (16, 45, 46, 425)]) (hin : meth.name = yX12_apply.name)  {x2 : Int32} {σ : tM} (hm : J_X12_apply_44 b0 fu  x2 σ = some (v, τ)) : tX p l e s m args below meth c 3 5 118 D aC b0 σ0 (.inl (some (.int v))) τ 44 [(2, .int (x2))] [] σ := by
  unfold J_X12_apply_44 at hm
  refine zx_iload_n C dX12_apply_44 0 rfl ?_
  obtain ⟨rfl, rfl⟩ := ret_e hm
  exact zx_iret C rfl rfl rfl dX12_apply_45
set_option maxRecDepth 100000 in
set_option maxHeartbeats 1000000 in
theorem l_X12_apply_18 {p : Program} {l : Launch} {e : Env} {s : State} {m : MethodId} {args : Array Value} {below : List Frame} {meth : Method} {c : Code} {D : va_G} {aC : Nat → ClassId} {b0 fu : Nat} {σ0 τ : tM} {v : Int32}  (C : tCx p l s m args meth c yX12_apply.cls cX12_apply 3 (some .int) D aC b0 σ0) (htab : c.exceptionTable.toList = tableOf [(5, 15, 46, 425), (16, 45, 46, 425)]) (hin : meth.name = yX12_apply.name)  : ∀ (n : Nat) (x0 : Nat) (x1 : Int32) (x2 : Int32) (σ : tM), L_X12_apply_18 b0 fu  n x0 x1 x2 σ = some (v, τ) → tX p l e s m args below meth c 3 5 118 D aC b0 σ0 (.inl (some (.int v))) τ 18 [(0, .ref (x0)), (1, .int (x1)), (2, .int (x2))] [] σ := by
  intro n
  induction n with
  | zero => intro x0 x1 x2 σ hm; unfold L_X12_apply_18 at hm; cases hm
  | succ n ih =>
    intro x0 x1 x2 σ hm
    unfold L_X12_apply_18 at hm
    obtain ⟨rc18, hrc⟩ : ∃ z, z = L_X12_apply_18 b0 fu  n := ⟨_, rfl⟩
    replace hm := ltb_e hm hrc
    rw [← hrc] at ih
    have hrc18 := ih
    clear ih hrc
    refine zx_iload_n C dX12_apply_18 2 rfl ?_
    refine zx_iload_n C dX12_apply_19 1 rfl ?_
    refine zx_icmp_ge C 44 dX12_apply_20 (by decide) (fun c7 => ?_) (fun c7 => ?_)
    · replace hm := ip_e hm c7
      exact zx_lv [2] [(2, .int (x2))] rfl (j_X12_apply_44 C htab hin    hm)
    · replace hm := in_e hm c7
      refine zx_aload_n C dX12_apply_23 0 rfl ?_
      obtain ⟨k8, i9, hm⟩ := ckO_e hm
      refine zx_get (j := 30) C tC_11 k8 i9 ⟨by decide, Or.inl W_7_9⟩ dX12_apply_24 (.int (tI (σ) (x0) 30)) rfl ?_
      refine zx_aload_n C dX12_apply_27 0 rfl ?_
      refine zx_get (j := 29) C tC_11 k8 i9 ⟨by decide, Or.inl W_7_8⟩ dX12_apply_28 (.int (tI (σ) (x0) 29)) rfl ?_
      refine zx_icmp_ge C 44 dX12_apply_31 (by decide) (fun c10 => ?_) (fun c10 => ?_)
      · replace hm := ip_e hm c10
        exact zx_lv [2] [(2, .int (x2))] rfl (j_X12_apply_44 C htab hin    hm)
      · replace hm := in_e hm c10
        refine zx_aload_n C dX12_apply_34 0 rfl ?_
        rcases cly_e hm with ⟨v11, ρ12, h13, hm⟩ | ⟨ρ16, h13, hm⟩
        · refine zx_callV (σ := σ) C [] tC_11 k8 i9 Y_X12_applyOne W_8_1 W_8_3 Wp_71 (c_X12_applyOne h13) (by decide) (by decide) rfl (Nat.le_of_ble_eq_true rfl) dX12_apply_35 rfl ?_
          obtain ⟨y14, hy14⟩ : ∃ z : Int32, z = (x2) + Int32.ofInt 1 := ⟨_, rfl⟩
          replace hm := ltb_e hm hy14
          refine zx_iinc C [(2, .int (y14)), (0, .ref (x0)), (1, .int (x1))] dX12_apply_38 2 rfl hy14.symm (by decide) rfl ?_
          refine zx_goto C 18 dX12_apply_41 (by decide) ?_
          exact zx_lv [1, 2, 0] [(0, .ref (x0)), (1, .int (x1)), (2, .int (y14))] rfl (hrc18 _ _ _ _ hm)
        · refine zx_catchV (σ := σ) (x9 := { startPc := 16, endPc := 45, handlerPc := 46, catchType := 425 }) C (tableOf [(5, 15, 46, 425)]) (tableOf []) htab (by decide) (by decide) (by decide) (E := "SyncTreeModel$Off") W_7_174 W_9_132 [] tC_11 k8 i9 Y_X12_applyOne W_8_1 W_8_3 Wp_71 (c_X12_applyOne h13) (by decide) (by decide) rfl (Nat.le_of_ble_eq_true rfl) dX12_apply_35 rfl (fun q15 => ?_)
          refine zx_astore_n C [(2, .ref (q15)), (0, .ref (x0)), (1, .int (x1))] dX12_apply_46 rfl (by decide) rfl ?_
          refine zx_aload_n C dX12_apply_47 1 rfl ?_
          obtain ⟨k17, i18, hm⟩ := ckO_e hm
          obtain ⟨v19, ρ20, h21, hm⟩ := cll_e hm
          refine zx_callV (σ := ρ16) C [] tC_11 k17 i18 Y_X12_off W_8_135 W_8_137 Wp_103 (c_X12_off h21) (by decide) (by decide) rfl (Nat.le_of_ble_eq_true rfl) dX12_apply_48 rfl ?_
          obtain ⟨rfl, rfl⟩ := ret_e hm
          exact zx_iret C rfl rfl rfl dX12_apply_51
set_option maxRecDepth 100000 in
set_option maxHeartbeats 1000000 in
theorem c_X12_apply {l : Launch} {D : va_G} {aC : Nat → ClassId} {b0 fu : Nat} {a0 : Nat} {p0 : Int32} {σ τ : tM} {v : Int32} (hm : m_X12_apply b0 fu a0 p0 σ = some (v, τ)) : tMt l D aC b0 yX12_apply (Cond.codeWith yX12_apply cX12_apply 3 (some .int) [(5, 15, 46, 425), (16, 45, 46, 425)]) 5 118 [.ref (a0), .int (p0)] σ (.inl (some (.int v))) τ := by
  unfold m_X12_apply at hm
  obtain ⟨hg, hm⟩ := grw_e hm
  refine tMt_ofH rfl (Nat.le_of_ble_eq_true rfl) hg ?_
  intro p e s m below meth c C htab hin
  refine zx_lv [0, 1] [(0, .ref (a0)), (1, .int (p0))] rfl ?_
  refine zx_aload_n C dX12_apply_0 0 rfl ?_
  refine zx_iconst (v := 0) C dX12_apply_1 (by decide) ?_
  obtain ⟨k1, i2, hm⟩ := ckO_e hm
  refine zx_put (j := 0) (ρ := sI (σ) (a0) 0 (0)) C tC_11 k1 i2 ⟨by decide, Or.inl W_6_220⟩ rfl rfl rfl (sI_ok (fun _ => rfl)) dX12_apply_2 ?_
  refine zx_aload_n C dX12_apply_5 0 rfl ?_
  rcases cly_e hm with ⟨v3, ρ4, h5, hm⟩ | ⟨ρ23, h5, hm⟩
  · refine zx_callV (σ := sI (σ) (a0) 0 (0)) C [] tC_11 k1 i2 Y_X12_up W_7_179 W_7_181 Wp_57 (c_X12_up h5) (by decide) (by decide) rfl (Nat.le_of_ble_eq_true rfl) dX12_apply_6 rfl ?_
    refine zx_iload_n C dX12_apply_9 1 rfl ?_
    refine zx_if_ge C 16 dX12_apply_10 (by decide) (fun c6 => ?_) (fun c6 => ?_)
    · replace hm := ip_e hm c6
      refine zx_iconst (v := 0) C dX12_apply_16 (by decide) ?_
      refine zx_istore_n C [(2, .int (0)), (0, .ref (a0)), (1, .int (p0))] dX12_apply_17 rfl (by decide) rfl ?_
      exact zx_lv [1, 2, 0] [(0, .ref (a0)), (1, .int (p0)), (2, .int (0))] rfl (l_X12_apply_18 C htab hin  _ _ _ _ _ hm)
    · replace hm := in_e hm c6
      refine zx_bipush (v := (-9)) C dX12_apply_13 (by decide) ?_
      obtain ⟨rfl, rfl⟩ := ret_e hm
      exact zx_iret C rfl rfl rfl dX12_apply_15
  · refine zx_catchV (σ := sI (σ) (a0) 0 (0)) (x9 := { startPc := 5, endPc := 15, handlerPc := 46, catchType := 425 }) C (tableOf []) (tableOf [(16, 45, 46, 425)]) htab (by decide) (by decide) (by decide) (E := "SyncTreeModel$Off") W_7_174 W_9_132 [] tC_11 k1 i2 Y_X12_up W_7_179 W_7_181 Wp_57 (c_X12_up h5) (by decide) (by decide) rfl (Nat.le_of_ble_eq_true rfl) dX12_apply_6 rfl (fun q22 => ?_)
    refine zx_astore_n C [(2, .ref (q22)), (0, .ref (a0)), (1, .int (p0))] dX12_apply_46 rfl (by decide) rfl ?_
    refine zx_aload_n C dX12_apply_47 1 rfl ?_
    obtain ⟨k24, i25, hm⟩ := ckO_e hm
    obtain ⟨v26, ρ27, h28, hm⟩ := cll_e hm
    refine zx_callV (σ := ρ23) C [] tC_11 k24 i25 Y_X12_off W_8_135 W_8_137 Wp_103 (c_X12_off h28) (by decide) (by decide) rfl (Nat.le_of_ble_eq_true rfl) dX12_apply_48 rfl ?_
    obtain ⟨rfl, rfl⟩ := ret_e hm
    exact zx_iret C rfl rfl rfl dX12_apply_51
abbrev cL_byteAt : ByteArray := method_15_code
def yL_byteAt : MethodName := ⟨"SyncTreeLaw", "byteAt", "(LSyncTree;II[J)I"⟩
theorem Y_L_byteAt : tYH yL_byteAt cL_byteAt 5 (some .int) [(0, 10, 13, 13)] 4 := ⟨W_5_184, W_1_0, ⟨by decide +kernel, by decide +kernel⟩, by decide +kernel⟩
theorem dL_byteAt_0 : decode cL_byteAt 0 = .ok (.aload_n 3, 1) := by decide +kernel
theorem dL_byteAt_1 : decode cL_byteAt 1 = .ok (.iconst 0, 1) := by decide +kernel
theorem dL_byteAt_2 : decode cL_byteAt 2 = .ok (.aload_n 0, 1) := by decide +kernel
theorem dL_byteAt_3 : decode cL_byteAt 3 = .ok (.iload_n 1, 1) := by decide +kernel
theorem dL_byteAt_4 : decode cL_byteAt 4 = .ok (.iload_n 2, 1) := by decide +kernel
theorem dL_byteAt_5 : decode cL_byteAt 5 = .ok (.invokevirtual 52, 3) := by decide +kernel
theorem dL_byteAt_8 : decode cL_byteAt 8 = .ok (.i2l, 1) := by decide +kernel
theorem dL_byteAt_9 : decode cL_byteAt 9 = .ok (.lastore, 1) := by decide +kernel
theorem dL_byteAt_10 : decode cL_byteAt 10 = .ok (.goto 7, 3) := by decide +kernel
theorem dL_byteAt_13 : decode cL_byteAt 13 = .ok (.astore 4, 2) := by decide +kernel
theorem dL_byteAt_15 : decode cL_byteAt 15 = .ok (.iconst 1, 1) := by decide +kernel
theorem dL_byteAt_16 : decode cL_byteAt 16 = .ok (.ireturn, 1) := by decide +kernel
theorem dL_byteAt_17 : decode cL_byteAt 17 = .ok (.iconst 0, 1) := by decide +kernel
theorem dL_byteAt_18 : decode cL_byteAt 18 = .ok (.ireturn, 1) := by decide +kernel
def m_L_byteAt (b0 fu : Nat) (p0 : Nat) (p1 : Int32) (p2 : Int32) (p3 : Nat) (σ : tM) : Option ((Int32) × tM) := grw σ (ckO b0 (σ) (p0) 10 (cly (m_X10_byteAt b0 fu (p0) (p1) (p2) (σ)) (fun v3 ρ4 => ckR b0 (ρ4) (p3) 3 (fun n8 => ckI (0) (n8) (some (0, sL (ρ4) (p3) (((0 : Int32)).toNatClampNeg) ((v3).toInt64))))) (fun ρ11 => some (1, ρ11))))
set_option maxRecDepth 100000 in
set_option maxHeartbeats 1000000 in
theorem c_L_byteAt {l : Launch} {D : va_G} {aC : Nat → ClassId} {b0 fu : Nat} {p0 : Nat} {p1 : Int32} {p2 : Int32} {p3 : Nat} {σ τ : tM} {v : Int32} (hm : m_L_byteAt b0 fu p0 p1 p2 p3 σ = some (v, τ)) : tMt l D aC b0 yL_byteAt (Cond.codeWith yL_byteAt cL_byteAt 5 (some .int) [(0, 10, 13, 13)]) 8 133 [.ref (p0), .int (p1), .int (p2), .ref (p3)] σ (.inl (some (.int v))) τ := by
  unfold m_L_byteAt at hm
  obtain ⟨hg, hm⟩ := grw_e hm
  refine tMt_ofH rfl (Nat.le_of_ble_eq_true rfl) hg ?_
  intro p e s m below meth c C htab hin
  refine zx_lv [0, 1, 2, 3] [(0, .ref (p0)), (1, .int (p1)), (2, .int (p2)), (3, .ref (p3))] rfl ?_
  refine zx_aload_n C dL_byteAt_0 3 rfl ?_
  refine zx_iconst (v := 0) C dL_byteAt_1 (by decide) ?_
  refine zx_aload_n C dL_byteAt_2 0 rfl ?_
  refine zx_iload_n C dL_byteAt_3 1 rfl ?_
  refine zx_iload_n C dL_byteAt_4 2 rfl ?_
  obtain ⟨k1, i2, hm⟩ := ckO_e hm
  rcases cly_e hm with ⟨v3, ρ4, h5, hm⟩ | ⟨ρ11, h5, hm⟩
  · refine zx_callV (σ := σ) C [.int (p1), .int (p2)] tC_10 k1 i2 Y_X10_byteAt W_5_185 W_5_186 W_5_187 (c_X10_byteAt h5) (by decide) (by decide) rfl (Nat.le_of_ble_eq_true rfl) dL_byteAt_5 rfl ?_
    refine zx_i2l C dL_byteAt_8 ?_
    obtain ⟨n8, k6, i7, hm⟩ := ckR_e hm
    obtain ⟨h9, hm⟩ := ckI_e hm
    refine zx_last C k6 i7 h9 dL_byteAt_9 ?_
    refine zx_goto C 17 dL_byteAt_10 (by decide) ?_
    refine zx_iconst (v := 0) C dL_byteAt_17 (by decide) ?_
    obtain ⟨rfl, rfl⟩ := ret_e hm
    exact zx_iret C rfl rfl rfl dL_byteAt_18
  · refine zx_catchV (σ := σ) (x9 := { startPc := 0, endPc := 10, handlerPc := 13, catchType := 13 }) C (tableOf []) (tableOf []) htab (by decide) (by decide) (by decide) (E := "java/lang/IllegalStateException") W_3_103 W_3_118 [.int (p1), .int (p2)] tC_10 k1 i2 Y_X10_byteAt W_5_185 W_5_186 W_5_187 (c_X10_byteAt h5) (by decide) (by decide) rfl (Nat.le_of_ble_eq_true rfl) dL_byteAt_5 rfl (fun q10 => ?_)
    refine zx_astore C [(4, .ref (q10)), (0, .ref (p0)), (1, .int (p1)), (2, .int (p2)), (3, .ref (p3))] dL_byteAt_13 (by decide) rfl ?_
    refine zx_iconst (v := 1) C dL_byteAt_15 (by decide) ?_
    obtain ⟨rfl, rfl⟩ := ret_e hm
    exact zx_iret C rfl rfl rfl dL_byteAt_16
abbrev cL_sum : ByteArray := method_16_code
def yL_sum : MethodName := ⟨"SyncTreeLaw", "sum", "(LSyncTree;III[J)I"⟩
theorem Y_L_sum : tYH yL_sum cL_sum 6 (some .int) [(0, 11, 14, 13)] 5 := ⟨W_5_195, W_1_0, ⟨by decide +kernel, by decide +kernel⟩, by decide +kernel⟩
theorem dL_sum_0 : decode cL_sum 0 = .ok (.aload 4, 2) := by decide +kernel
theorem dL_sum_2 : decode cL_sum 2 = .ok (.iconst 0, 1) := by decide +kernel
theorem dL_sum_3 : decode cL_sum 3 = .ok (.aload_n 0, 1) := by decide +kernel
theorem dL_sum_4 : decode cL_sum 4 = .ok (.iload_n 1, 1) := by decide +kernel
theorem dL_sum_5 : decode cL_sum 5 = .ok (.iload_n 2, 1) := by decide +kernel
theorem dL_sum_6 : decode cL_sum 6 = .ok (.iload_n 3, 1) := by decide +kernel
theorem dL_sum_7 : decode cL_sum 7 = .ok (.invokevirtual 55, 3) := by decide +kernel
theorem dL_sum_10 : decode cL_sum 10 = .ok (.lastore, 1) := by decide +kernel
theorem dL_sum_11 : decode cL_sum 11 = .ok (.goto 7, 3) := by decide +kernel
theorem dL_sum_14 : decode cL_sum 14 = .ok (.astore 5, 2) := by decide +kernel
theorem dL_sum_16 : decode cL_sum 16 = .ok (.iconst 1, 1) := by decide +kernel
theorem dL_sum_17 : decode cL_sum 17 = .ok (.ireturn, 1) := by decide +kernel
theorem dL_sum_18 : decode cL_sum 18 = .ok (.iconst 0, 1) := by decide +kernel
theorem dL_sum_19 : decode cL_sum 19 = .ok (.ireturn, 1) := by decide +kernel
def m_L_sum (b0 fu : Nat) (p0 : Nat) (p1 : Int32) (p2 : Int32) (p3 : Int32) (p4 : Nat) (σ : tM) : Option ((Int32) × tM) := grw σ (ckO b0 (σ) (p0) 10 (cly (m_X10_sum b0 fu (p0) (p1) (p2) (p3) (σ)) (fun v3 ρ4 => ckR b0 (ρ4) (p4) 3 (fun n8 => ckI (0) (n8) (some (0, sL (ρ4) (p4) (((0 : Int32)).toNatClampNeg) (v3))))) (fun ρ11 => some (1, ρ11))))
set_option maxRecDepth 100000 in
set_option maxHeartbeats 1000000 in
theorem c_L_sum {l : Launch} {D : va_G} {aC : Nat → ClassId} {b0 fu : Nat} {p0 : Nat} {p1 : Int32} {p2 : Int32} {p3 : Int32} {p4 : Nat} {σ τ : tM} {v : Int32} (hm : m_L_sum b0 fu p0 p1 p2 p3 p4 σ = some (v, τ)) : tMt l D aC b0 yL_sum (Cond.codeWith yL_sum cL_sum 6 (some .int) [(0, 11, 14, 13)]) 8 136 [.ref (p0), .int (p1), .int (p2), .int (p3), .ref (p4)] σ (.inl (some (.int v))) τ := by
  unfold m_L_sum at hm
  obtain ⟨hg, hm⟩ := grw_e hm
  refine tMt_ofH rfl (Nat.le_of_ble_eq_true rfl) hg ?_
  intro p e s m below meth c C htab hin
  refine zx_lv [0, 1, 2, 3, 4] [(0, .ref (p0)), (1, .int (p1)), (2, .int (p2)), (3, .int (p3)), (4, .ref (p4))] rfl ?_
  refine zx_aload C dL_sum_0 4 rfl ?_
  refine zx_iconst (v := 0) C dL_sum_2 (by decide) ?_
  refine zx_aload_n C dL_sum_3 0 rfl ?_
  refine zx_iload_n C dL_sum_4 1 rfl ?_
  refine zx_iload_n C dL_sum_5 2 rfl ?_
  refine zx_iload_n C dL_sum_6 3 rfl ?_
  obtain ⟨k1, i2, hm⟩ := ckO_e hm
  rcases cly_e hm with ⟨v3, ρ4, h5, hm⟩ | ⟨ρ11, h5, hm⟩
  · refine zx_callV (σ := σ) C [.int (p1), .int (p2), .int (p3)] tC_10 k1 i2 Y_X10_sum W_5_196 W_5_197 W_5_198 (c_X10_sum h5) (by decide) (by decide) rfl (Nat.le_of_ble_eq_true rfl) dL_sum_7 rfl ?_
    obtain ⟨n8, k6, i7, hm⟩ := ckR_e hm
    obtain ⟨h9, hm⟩ := ckI_e hm
    refine zx_last C k6 i7 h9 dL_sum_10 ?_
    refine zx_goto C 18 dL_sum_11 (by decide) ?_
    refine zx_iconst (v := 0) C dL_sum_18 (by decide) ?_
    obtain ⟨rfl, rfl⟩ := ret_e hm
    exact zx_iret C rfl rfl rfl dL_sum_19
  · refine zx_catchV (σ := σ) (x9 := { startPc := 0, endPc := 11, handlerPc := 14, catchType := 13 }) C (tableOf []) (tableOf []) htab (by decide) (by decide) (by decide) (E := "java/lang/IllegalStateException") W_3_103 W_3_118 [.int (p1), .int (p2), .int (p3)] tC_10 k1 i2 Y_X10_sum W_5_196 W_5_197 W_5_198 (c_X10_sum h5) (by decide) (by decide) rfl (Nat.le_of_ble_eq_true rfl) dL_sum_7 rfl (fun q10 => ?_)
    refine zx_astore C [(5, .ref (q10)), (0, .ref (p0)), (1, .int (p1)), (2, .int (p2)), (3, .int (p3)), (4, .ref (p4))] dL_sum_14 (by decide) rfl ?_
    refine zx_iconst (v := 1) C dL_sum_16 (by decide) ?_
    obtain ⟨rfl, rfl⟩ := ret_e hm
    exact zx_iret C rfl rfl rfl dL_sum_17
abbrev cL_blockOf : ByteArray := method_21_code
def yL_blockOf : MethodName := ⟨"SyncTreeLaw", "blockOf", "(LSyncTree;II[J)I"⟩
theorem Y_L_blockOf : tYH yL_blockOf cL_blockOf 5 (some .int) [(0, 10, 13, 13)] 4 := ⟨W_6_20, W_1_0, ⟨by decide +kernel, by decide +kernel⟩, by decide +kernel⟩
theorem dL_blockOf_0 : decode cL_blockOf 0 = .ok (.aload_n 3, 1) := by decide +kernel
theorem dL_blockOf_1 : decode cL_blockOf 1 = .ok (.iconst 0, 1) := by decide +kernel
theorem dL_blockOf_2 : decode cL_blockOf 2 = .ok (.aload_n 0, 1) := by decide +kernel
theorem dL_blockOf_3 : decode cL_blockOf 3 = .ok (.iload_n 1, 1) := by decide +kernel
theorem dL_blockOf_4 : decode cL_blockOf 4 = .ok (.iload_n 2, 1) := by decide +kernel
theorem dL_blockOf_5 : decode cL_blockOf 5 = .ok (.invokevirtual 72, 3) := by decide +kernel
theorem dL_blockOf_8 : decode cL_blockOf 8 = .ok (.i2l, 1) := by decide +kernel
theorem dL_blockOf_9 : decode cL_blockOf 9 = .ok (.lastore, 1) := by decide +kernel
theorem dL_blockOf_10 : decode cL_blockOf 10 = .ok (.goto 7, 3) := by decide +kernel
theorem dL_blockOf_13 : decode cL_blockOf 13 = .ok (.astore 4, 2) := by decide +kernel
theorem dL_blockOf_15 : decode cL_blockOf 15 = .ok (.iconst 1, 1) := by decide +kernel
theorem dL_blockOf_16 : decode cL_blockOf 16 = .ok (.ireturn, 1) := by decide +kernel
theorem dL_blockOf_17 : decode cL_blockOf 17 = .ok (.iconst 0, 1) := by decide +kernel
theorem dL_blockOf_18 : decode cL_blockOf 18 = .ok (.ireturn, 1) := by decide +kernel
def m_L_blockOf (b0 fu : Nat) (p0 : Nat) (p1 : Int32) (p2 : Int32) (p3 : Nat) (σ : tM) : Option ((Int32) × tM) := grw σ (ckO b0 (σ) (p0) 10 (cly (m_X10_blockOf b0 fu (p0) (p1) (p2) (σ)) (fun v3 ρ4 => ckR b0 (ρ4) (p3) 3 (fun n8 => ckI (0) (n8) (some (0, sL (ρ4) (p3) (((0 : Int32)).toNatClampNeg) ((v3).toInt64))))) (fun ρ11 => some (1, ρ11))))
set_option maxRecDepth 100000 in
set_option maxHeartbeats 1000000 in
theorem c_L_blockOf {l : Launch} {D : va_G} {aC : Nat → ClassId} {b0 fu : Nat} {p0 : Nat} {p1 : Int32} {p2 : Int32} {p3 : Nat} {σ τ : tM} {v : Int32} (hm : m_L_blockOf b0 fu p0 p1 p2 p3 σ = some (v, τ)) : tMt l D aC b0 yL_blockOf (Cond.codeWith yL_blockOf cL_blockOf 5 (some .int) [(0, 10, 13, 13)]) 8 134 [.ref (p0), .int (p1), .int (p2), .ref (p3)] σ (.inl (some (.int v))) τ := by
  unfold m_L_blockOf at hm
  obtain ⟨hg, hm⟩ := grw_e hm
  refine tMt_ofH rfl (Nat.le_of_ble_eq_true rfl) hg ?_
  intro p e s m below meth c C htab hin
  refine zx_lv [0, 1, 2, 3] [(0, .ref (p0)), (1, .int (p1)), (2, .int (p2)), (3, .ref (p3))] rfl ?_
  refine zx_aload_n C dL_blockOf_0 3 rfl ?_
  refine zx_iconst (v := 0) C dL_blockOf_1 (by decide) ?_
  refine zx_aload_n C dL_blockOf_2 0 rfl ?_
  refine zx_iload_n C dL_blockOf_3 1 rfl ?_
  refine zx_iload_n C dL_blockOf_4 2 rfl ?_
  obtain ⟨k1, i2, hm⟩ := ckO_e hm
  rcases cly_e hm with ⟨v3, ρ4, h5, hm⟩ | ⟨ρ11, h5, hm⟩
  · refine zx_callV (σ := σ) C [.int (p1), .int (p2)] tC_10 k1 i2 Y_X10_blockOf W_6_21 W_6_22 W_6_23 (c_X10_blockOf h5) (by decide) (by decide) rfl (Nat.le_of_ble_eq_true rfl) dL_blockOf_5 rfl ?_
    refine zx_i2l C dL_blockOf_8 ?_
    obtain ⟨n8, k6, i7, hm⟩ := ckR_e hm
    obtain ⟨h9, hm⟩ := ckI_e hm
    refine zx_last C k6 i7 h9 dL_blockOf_9 ?_
    refine zx_goto C 17 dL_blockOf_10 (by decide) ?_
    refine zx_iconst (v := 0) C dL_blockOf_17 (by decide) ?_
    obtain ⟨rfl, rfl⟩ := ret_e hm
    exact zx_iret C rfl rfl rfl dL_blockOf_18
  · refine zx_catchV (σ := σ) (x9 := { startPc := 0, endPc := 10, handlerPc := 13, catchType := 13 }) C (tableOf []) (tableOf []) htab (by decide) (by decide) (by decide) (E := "java/lang/IllegalStateException") W_3_103 W_3_118 [.int (p1), .int (p2)] tC_10 k1 i2 Y_X10_blockOf W_6_21 W_6_22 W_6_23 (c_X10_blockOf h5) (by decide) (by decide) rfl (Nat.le_of_ble_eq_true rfl) dL_blockOf_5 rfl (fun q10 => ?_)
    refine zx_astore C [(4, .ref (q10)), (0, .ref (p0)), (1, .int (p1)), (2, .int (p2)), (3, .ref (p3))] dL_blockOf_13 (by decide) rfl ?_
    refine zx_iconst (v := 1) C dL_blockOf_15 (by decide) ?_
    obtain ⟨rfl, rfl⟩ := ret_e hm
    exact zx_iret C rfl rfl rfl dL_blockOf_16
abbrev cL_crash : ByteArray := method_28_code
def yL_crash : MethodName := ⟨"SyncTreeLaw", "crash", "(LSyncTree;[J)I"⟩
theorem Y_L_crash : tYH yL_crash cL_crash 3 (some .int) [(0, 8, 11, 13)] 2 := ⟨W_6_104, W_1_0, ⟨by decide +kernel, by decide +kernel⟩, by decide +kernel⟩
theorem dL_crash_0 : decode cL_crash 0 = .ok (.aload_n 1, 1) := by decide +kernel
theorem dL_crash_1 : decode cL_crash 1 = .ok (.iconst 0, 1) := by decide +kernel
theorem dL_crash_2 : decode cL_crash 2 = .ok (.aload_n 0, 1) := by decide +kernel
theorem dL_crash_3 : decode cL_crash 3 = .ok (.invokevirtual 93, 3) := by decide +kernel
theorem dL_crash_6 : decode cL_crash 6 = .ok (.i2l, 1) := by decide +kernel
theorem dL_crash_7 : decode cL_crash 7 = .ok (.lastore, 1) := by decide +kernel
theorem dL_crash_8 : decode cL_crash 8 = .ok (.goto 6, 3) := by decide +kernel
theorem dL_crash_11 : decode cL_crash 11 = .ok (.astore_n 2, 1) := by decide +kernel
theorem dL_crash_12 : decode cL_crash 12 = .ok (.iconst 1, 1) := by decide +kernel
theorem dL_crash_13 : decode cL_crash 13 = .ok (.ireturn, 1) := by decide +kernel
theorem dL_crash_14 : decode cL_crash 14 = .ok (.iconst 0, 1) := by decide +kernel
theorem dL_crash_15 : decode cL_crash 15 = .ok (.ireturn, 1) := by decide +kernel
def m_L_crash (b0 fu : Nat) (p0 : Nat) (p1 : Nat) (σ : tM) : Option ((Int32) × tM) := grw σ (ckO b0 (σ) (p0) 10 (cly (m_X10_crash b0 fu (p0) (σ)) (fun v3 ρ4 => ckR b0 (ρ4) (p1) 3 (fun n8 => ckI (0) (n8) (some (0, sL (ρ4) (p1) (((0 : Int32)).toNatClampNeg) ((v3).toInt64))))) (fun ρ11 => some (1, ρ11))))
set_option maxRecDepth 100000 in
set_option maxHeartbeats 1000000 in
theorem c_L_crash {l : Launch} {D : va_G} {aC : Nat → ClassId} {b0 fu : Nat} {p0 : Nat} {p1 : Nat} {σ τ : tM} {v : Int32} (hm : m_L_crash b0 fu p0 p1 σ = some (v, τ)) : tMt l D aC b0 yL_crash (Cond.codeWith yL_crash cL_crash 3 (some .int) [(0, 8, 11, 13)]) 8 130 [.ref (p0), .ref (p1)] σ (.inl (some (.int v))) τ := by
  unfold m_L_crash at hm
  obtain ⟨hg, hm⟩ := grw_e hm
  refine tMt_ofH rfl (Nat.le_of_ble_eq_true rfl) hg ?_
  intro p e s m below meth c C htab hin
  refine zx_lv [0, 1] [(0, .ref (p0)), (1, .ref (p1))] rfl ?_
  refine zx_aload_n C dL_crash_0 1 rfl ?_
  refine zx_iconst (v := 0) C dL_crash_1 (by decide) ?_
  refine zx_aload_n C dL_crash_2 0 rfl ?_
  obtain ⟨k1, i2, hm⟩ := ckO_e hm
  rcases cly_e hm with ⟨v3, ρ4, h5, hm⟩ | ⟨ρ11, h5, hm⟩
  · refine zx_callV (σ := σ) C [] tC_10 k1 i2 Y_X10_crash W_6_105 W_6_106 W_6_107 (c_X10_crash h5) (by decide) (by decide) rfl (Nat.le_of_ble_eq_true rfl) dL_crash_3 rfl ?_
    refine zx_i2l C dL_crash_6 ?_
    obtain ⟨n8, k6, i7, hm⟩ := ckR_e hm
    obtain ⟨h9, hm⟩ := ckI_e hm
    refine zx_last C k6 i7 h9 dL_crash_7 ?_
    refine zx_goto C 14 dL_crash_8 (by decide) ?_
    refine zx_iconst (v := 0) C dL_crash_14 (by decide) ?_
    obtain ⟨rfl, rfl⟩ := ret_e hm
    exact zx_iret C rfl rfl rfl dL_crash_15
  · refine zx_catchV (σ := σ) (x9 := { startPc := 0, endPc := 8, handlerPc := 11, catchType := 13 }) C (tableOf []) (tableOf []) htab (by decide) (by decide) (by decide) (E := "java/lang/IllegalStateException") W_3_103 W_3_118 [] tC_10 k1 i2 Y_X10_crash W_6_105 W_6_106 W_6_107 (c_X10_crash h5) (by decide) (by decide) rfl (Nat.le_of_ble_eq_true rfl) dL_crash_3 rfl (fun q10 => ?_)
    refine zx_astore_n C [(2, .ref (q10)), (0, .ref (p0)), (1, .ref (p1))] dL_crash_11 rfl (by decide) rfl ?_
    refine zx_iconst (v := 1) C dL_crash_12 (by decide) ?_
    obtain ⟨rfl, rfl⟩ := ret_e hm
    exact zx_iret C rfl rfl rfl dL_crash_13
abbrev cX12_create : ByteArray := prog_13_method_74_code
def yX12_create : MethodName := ⟨"SyncTreeModel", "create", "()I"⟩
theorem Y_X12_create : tYH yX12_create cX12_create 2 (some .int) [(5, 14, 15, 425)] 0 := ⟨W_7_173, W_1_14, ⟨by decide +kernel, by decide +kernel⟩, by decide +kernel⟩
theorem dX12_create_0 : decode cX12_create 0 = .ok (.aload_n 0, 1) := by decide +kernel
theorem dX12_create_1 : decode cX12_create 1 = .ok (.iconst 0, 1) := by decide +kernel
theorem dX12_create_2 : decode cX12_create 2 = .ok (.putfield 3, 3) := by decide +kernel
theorem dX12_create_5 : decode cX12_create 5 = .ok (.aload_n 0, 1) := by decide +kernel
theorem dX12_create_6 : decode cX12_create 6 = .ok (.invokevirtual 419, 3) := by decide +kernel
theorem dX12_create_9 : decode cX12_create 9 = .ok (.aload_n 0, 1) := by decide +kernel
theorem dX12_create_10 : decode cX12_create 10 = .ok (.iconst 1, 1) := by decide +kernel
theorem dX12_create_11 : decode cX12_create 11 = .ok (.invokevirtual 422, 3) := by decide +kernel
theorem dX12_create_14 : decode cX12_create 14 = .ok (.ireturn, 1) := by decide +kernel
theorem dX12_create_15 : decode cX12_create 15 = .ok (.astore_n 1, 1) := by decide +kernel
theorem dX12_create_16 : decode cX12_create 16 = .ok (.aload_n 0, 1) := by decide +kernel
theorem dX12_create_17 : decode cX12_create 17 = .ok (.invokevirtual 427, 3) := by decide +kernel
theorem dX12_create_20 : decode cX12_create 20 = .ok (.ireturn, 1) := by decide +kernel
def m_X12_create (b0 fu : Nat) (a0 : Nat) (σ : tM) : Option ((Int32) × tM) := grw σ (ckO b0 (σ) (a0) 11 (cly (m_X12_upAhead b0 fu (a0) (sI (σ) (a0) 0 (0))) (fun v3 ρ4 => ckO b0 (ρ4) (a0) 11 (cll (m_X12_make b0 fu (a0) (1) (ρ4)) (fun v8 ρ9 => some (v8, ρ9)))) (fun ρ12 => ckO b0 (ρ12) (a0) 11 (cll (m_X12_off b0 fu (a0) (ρ12)) (fun v15 ρ16 => some (v15, ρ16))))))
set_option maxRecDepth 100000 in
set_option maxHeartbeats 1000000 in
theorem c_X12_create {l : Launch} {D : va_G} {aC : Nat → ClassId} {b0 fu : Nat} {a0 : Nat} {σ τ : tM} {v : Int32} (hm : m_X12_create b0 fu a0 σ = some (v, τ)) : tMt l D aC b0 yX12_create (Cond.codeWith yX12_create cX12_create 2 (some .int) [(5, 14, 15, 425)]) 10 242 [.ref (a0)] σ (.inl (some (.int v))) τ := by
  unfold m_X12_create at hm
  obtain ⟨hg, hm⟩ := grw_e hm
  refine tMt_ofH rfl (Nat.le_of_ble_eq_true rfl) hg ?_
  intro p e s m below meth c C htab hin
  refine zx_lv [0] [(0, .ref (a0))] rfl ?_
  refine zx_aload_n C dX12_create_0 0 rfl ?_
  refine zx_iconst (v := 0) C dX12_create_1 (by decide) ?_
  obtain ⟨k1, i2, hm⟩ := ckO_e hm
  refine zx_put (j := 0) (ρ := sI (σ) (a0) 0 (0)) C tC_11 k1 i2 ⟨by decide, Or.inl W_6_220⟩ rfl rfl rfl (sI_ok (fun _ => rfl)) dX12_create_2 ?_
  refine zx_aload_n C dX12_create_5 0 rfl ?_
  rcases cly_e hm with ⟨v3, ρ4, h5, hm⟩ | ⟨ρ12, h5, hm⟩
  · refine zx_callV (σ := sI (σ) (a0) 0 (0)) C [] tC_11 k1 i2 Y_X12_upAhead W_7_175 W_7_177 Wp_56 (c_X12_upAhead h5) (by decide) (by decide) rfl (Nat.le_of_ble_eq_true rfl) dX12_create_6 rfl ?_
    refine zx_aload_n C dX12_create_9 0 rfl ?_
    refine zx_iconst (v := 1) C dX12_create_10 (by decide) ?_
    obtain ⟨k6, i7, hm⟩ := ckO_e hm
    obtain ⟨v8, ρ9, h10, hm⟩ := cll_e hm
    refine zx_callV (σ := ρ4) C [.int (1)] tC_11 k6 i7 Y_X12_make W_8_20 W_8_22 Wp_75 (c_X12_make h10) (by decide) (by decide) rfl (Nat.le_of_ble_eq_true rfl) dX12_create_11 rfl ?_
    obtain ⟨rfl, rfl⟩ := ret_e hm
    exact zx_iret C rfl rfl rfl dX12_create_14
  · refine zx_catchV (σ := sI (σ) (a0) 0 (0)) (x9 := { startPc := 5, endPc := 14, handlerPc := 15, catchType := 425 }) C (tableOf []) (tableOf []) htab (by decide) (by decide) (by decide) (E := "SyncTreeModel$Off") W_7_174 W_9_132 [] tC_11 k1 i2 Y_X12_upAhead W_7_175 W_7_177 Wp_56 (c_X12_upAhead h5) (by decide) (by decide) rfl (Nat.le_of_ble_eq_true rfl) dX12_create_6 rfl (fun q11 => ?_)
    refine zx_astore_n C [(1, .ref (q11)), (0, .ref (a0))] dX12_create_15 rfl (by decide) rfl ?_
    refine zx_aload_n C dX12_create_16 1 rfl ?_
    obtain ⟨k13, i14, hm⟩ := ckO_e hm
    obtain ⟨v15, ρ16, h17, hm⟩ := cll_e hm
    refine zx_callV (σ := ρ12) C [] tC_11 k13 i14 Y_X12_off W_8_135 W_8_137 Wp_103 (c_X12_off h17) (by decide) (by decide) rfl (Nat.le_of_ble_eq_true rfl) dX12_create_17 rfl ?_
    obtain ⟨rfl, rfl⟩ := ret_e hm
    exact zx_iret C rfl rfl rfl dX12_create_20
abbrev cX12_mkdir : ByteArray := prog_13_method_75_code
def yX12_mkdir : MethodName := ⟨"SyncTreeModel", "mkdir", "()I"⟩
theorem Y_X12_mkdir : tYH yX12_mkdir cX12_mkdir 2 (some .int) [(5, 14, 15, 425)] 0 := ⟨W_8_142, W_1_14, ⟨by decide +kernel, by decide +kernel⟩, by decide +kernel⟩
theorem dX12_mkdir_0 : decode cX12_mkdir 0 = .ok (.aload_n 0, 1) := by decide +kernel
theorem dX12_mkdir_1 : decode cX12_mkdir 1 = .ok (.iconst 0, 1) := by decide +kernel
theorem dX12_mkdir_2 : decode cX12_mkdir 2 = .ok (.putfield 3, 3) := by decide +kernel
theorem dX12_mkdir_5 : decode cX12_mkdir 5 = .ok (.aload_n 0, 1) := by decide +kernel
theorem dX12_mkdir_6 : decode cX12_mkdir 6 = .ok (.invokevirtual 419, 3) := by decide +kernel
theorem dX12_mkdir_9 : decode cX12_mkdir 9 = .ok (.aload_n 0, 1) := by decide +kernel
theorem dX12_mkdir_10 : decode cX12_mkdir 10 = .ok (.iconst 2, 1) := by decide +kernel
theorem dX12_mkdir_11 : decode cX12_mkdir 11 = .ok (.invokevirtual 422, 3) := by decide +kernel
theorem dX12_mkdir_14 : decode cX12_mkdir 14 = .ok (.ireturn, 1) := by decide +kernel
theorem dX12_mkdir_15 : decode cX12_mkdir 15 = .ok (.astore_n 1, 1) := by decide +kernel
theorem dX12_mkdir_16 : decode cX12_mkdir 16 = .ok (.aload_n 0, 1) := by decide +kernel
theorem dX12_mkdir_17 : decode cX12_mkdir 17 = .ok (.invokevirtual 427, 3) := by decide +kernel
theorem dX12_mkdir_20 : decode cX12_mkdir 20 = .ok (.ireturn, 1) := by decide +kernel
def m_X12_mkdir (b0 fu : Nat) (a0 : Nat) (σ : tM) : Option ((Int32) × tM) := grw σ (ckO b0 (σ) (a0) 11 (cly (m_X12_upAhead b0 fu (a0) (sI (σ) (a0) 0 (0))) (fun v3 ρ4 => ckO b0 (ρ4) (a0) 11 (cll (m_X12_make b0 fu (a0) (2) (ρ4)) (fun v8 ρ9 => some (v8, ρ9)))) (fun ρ12 => ckO b0 (ρ12) (a0) 11 (cll (m_X12_off b0 fu (a0) (ρ12)) (fun v15 ρ16 => some (v15, ρ16))))))
set_option maxRecDepth 100000 in
set_option maxHeartbeats 1000000 in
theorem c_X12_mkdir {l : Launch} {D : va_G} {aC : Nat → ClassId} {b0 fu : Nat} {a0 : Nat} {σ τ : tM} {v : Int32} (hm : m_X12_mkdir b0 fu a0 σ = some (v, τ)) : tMt l D aC b0 yX12_mkdir (Cond.codeWith yX12_mkdir cX12_mkdir 2 (some .int) [(5, 14, 15, 425)]) 10 242 [.ref (a0)] σ (.inl (some (.int v))) τ := by
  unfold m_X12_mkdir at hm
  obtain ⟨hg, hm⟩ := grw_e hm
  refine tMt_ofH rfl (Nat.le_of_ble_eq_true rfl) hg ?_
  intro p e s m below meth c C htab hin
  refine zx_lv [0] [(0, .ref (a0))] rfl ?_
  refine zx_aload_n C dX12_mkdir_0 0 rfl ?_
  refine zx_iconst (v := 0) C dX12_mkdir_1 (by decide) ?_
  obtain ⟨k1, i2, hm⟩ := ckO_e hm
  refine zx_put (j := 0) (ρ := sI (σ) (a0) 0 (0)) C tC_11 k1 i2 ⟨by decide, Or.inl W_6_220⟩ rfl rfl rfl (sI_ok (fun _ => rfl)) dX12_mkdir_2 ?_
  refine zx_aload_n C dX12_mkdir_5 0 rfl ?_
  rcases cly_e hm with ⟨v3, ρ4, h5, hm⟩ | ⟨ρ12, h5, hm⟩
  · refine zx_callV (σ := sI (σ) (a0) 0 (0)) C [] tC_11 k1 i2 Y_X12_upAhead W_7_175 W_7_177 Wp_56 (c_X12_upAhead h5) (by decide) (by decide) rfl (Nat.le_of_ble_eq_true rfl) dX12_mkdir_6 rfl ?_
    refine zx_aload_n C dX12_mkdir_9 0 rfl ?_
    refine zx_iconst (v := 2) C dX12_mkdir_10 (by decide) ?_
    obtain ⟨k6, i7, hm⟩ := ckO_e hm
    obtain ⟨v8, ρ9, h10, hm⟩ := cll_e hm
    refine zx_callV (σ := ρ4) C [.int (2)] tC_11 k6 i7 Y_X12_make W_8_20 W_8_22 Wp_75 (c_X12_make h10) (by decide) (by decide) rfl (Nat.le_of_ble_eq_true rfl) dX12_mkdir_11 rfl ?_
    obtain ⟨rfl, rfl⟩ := ret_e hm
    exact zx_iret C rfl rfl rfl dX12_mkdir_14
  · refine zx_catchV (σ := sI (σ) (a0) 0 (0)) (x9 := { startPc := 5, endPc := 14, handlerPc := 15, catchType := 425 }) C (tableOf []) (tableOf []) htab (by decide) (by decide) (by decide) (E := "SyncTreeModel$Off") W_7_174 W_9_132 [] tC_11 k1 i2 Y_X12_upAhead W_7_175 W_7_177 Wp_56 (c_X12_upAhead h5) (by decide) (by decide) rfl (Nat.le_of_ble_eq_true rfl) dX12_mkdir_6 rfl (fun q11 => ?_)
    refine zx_astore_n C [(1, .ref (q11)), (0, .ref (a0))] dX12_mkdir_15 rfl (by decide) rfl ?_
    refine zx_aload_n C dX12_mkdir_16 1 rfl ?_
    obtain ⟨k13, i14, hm⟩ := ckO_e hm
    obtain ⟨v15, ρ16, h17, hm⟩ := cll_e hm
    refine zx_callV (σ := ρ12) C [] tC_11 k13 i14 Y_X12_off W_8_135 W_8_137 Wp_103 (c_X12_off h17) (by decide) (by decide) rfl (Nat.le_of_ble_eq_true rfl) dX12_mkdir_17 rfl ?_
    obtain ⟨rfl, rfl⟩ := ret_e hm
    exact zx_iret C rfl rfl rfl dX12_mkdir_20
