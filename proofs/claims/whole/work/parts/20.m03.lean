abbrev cX5_word : ByteArray := prog_7_method_12_code
def yX5_word : MethodName := ⟨"SyncTree$Space", "word", "(II)J"⟩
theorem Y_X5_word : tY yX5_word cX5_word 3 (some .long) 2 := ⟨W_2_143, W_1_3, ⟨by decide +kernel, by decide +kernel⟩, by decide +kernel⟩
theorem dX5_word_0 : decode cX5_word 0 = .ok (.iload_n 1, 1) := by decide +kernel
theorem dX5_word_1 : decode cX5_word 1 = .ok (.ifCond .lt 21, 3) := by decide +kernel
theorem dX5_word_4 : decode cX5_word 4 = .ok (.iload_n 1, 1) := by decide +kernel
theorem dX5_word_5 : decode cX5_word 5 = .ok (.aload_n 0, 1) := by decide +kernel
theorem dX5_word_6 : decode cX5_word 6 = .ok (.getfield 48, 3) := by decide +kernel
theorem dX5_word_9 : decode cX5_word 9 = .ok (.if_icmp .ge 13, 3) := by decide +kernel
theorem dX5_word_12 : decode cX5_word 12 = .ok (.iload_n 2, 1) := by decide +kernel
theorem dX5_word_13 : decode cX5_word 13 = .ok (.ifCond .lt 9, 3) := by decide +kernel
theorem dX5_word_16 : decode cX5_word 16 = .ok (.iload_n 2, 1) := by decide +kernel
theorem dX5_word_17 : decode cX5_word 17 = .ok (.bipush 32, 2) := by decide +kernel
theorem dX5_word_19 : decode cX5_word 19 = .ok (.if_icmp .lt 7, 3) := by decide +kernel
theorem dX5_word_22 : decode cX5_word 22 = .ok (.lconst 0, 1) := by decide +kernel
theorem dX5_word_23 : decode cX5_word 23 = .ok (.goto 14, 3) := by decide +kernel
theorem dX5_word_26 : decode cX5_word 26 = .ok (.aload_n 0, 1) := by decide +kernel
theorem dX5_word_27 : decode cX5_word 27 = .ok (.getfield 10, 3) := by decide +kernel
theorem dX5_word_30 : decode cX5_word 30 = .ok (.iload_n 1, 1) := by decide +kernel
theorem dX5_word_31 : decode cX5_word 31 = .ok (.bipush 32, 2) := by decide +kernel
theorem dX5_word_33 : decode cX5_word 33 = .ok (.imul, 1) := by decide +kernel
theorem dX5_word_34 : decode cX5_word 34 = .ok (.iload_n 2, 1) := by decide +kernel
theorem dX5_word_35 : decode cX5_word 35 = .ok (.iadd, 1) := by decide +kernel
theorem dX5_word_36 : decode cX5_word 36 = .ok (.laload, 1) := by decide +kernel
theorem dX5_word_37 : decode cX5_word 37 = .ok (.lreturn, 1) := by decide +kernel
def J_X5_word_37 (b0 fu : Nat)  (s0 : Int64) (σ : tM) : Option ((Int64) × tM) := some (s0, σ)
def J_X5_word_22 (b0 fu : Nat)   (σ : tM) : Option ((Int64) × tM) := J_X5_word_37 b0 fu   (0) (σ)
def m_X5_word (b0 fu : Nat) (a0 : Nat) (p0 : Int32) (p1 : Int32) (σ : tM) : Option ((Int64) × tM) := grw σ (if (p0) < (0) then J_X5_word_22 b0 fu    (σ) else ckO b0 (σ) (a0) 5 (if (tI (σ) (a0) 7) ≤ (p0) then J_X5_word_22 b0 fu    (σ) else if (p1) < (0) then J_X5_word_22 b0 fu    (σ) else if (p1) < (32) then osm (tA (σ) (a0) 0) (fun a7 => ckR b0 (σ) (a7) 3 (fun n11 => ckI (((p0) * (32)) + (p1)) (n11) (J_X5_word_37 b0 fu   (tL (σ) (a7) ((((p0) * (32)) + (p1)).toNatClampNeg)) (σ)))) else J_X5_word_22 b0 fu    (σ)))
set_option maxRecDepth 100000 in
set_option maxHeartbeats 1000000 in
theorem j_X5_word_37 {p : Program} {l : Launch} {e : Env} {s : State} {m : MethodId} {args : Array Value} {below : List Frame} {meth : Method} {c : Code} {D : va_G} {aC : Nat → ClassId} {b0 fu : Nat} {σ0 τ : tM} {v : Int64}  (C : tCx p l s m args meth c yX5_word.cls cX5_word 3 (some .long) D aC b0 σ0) (htab : ∀ x ∈ c.exceptionTable.toList, False) (hin : meth.name = yX5_word.name)  {s0 : Int64} {σ : tM} (hm : J_X5_word_37 b0 fu  s0 σ = some (v, τ)) : tX p l e s m args below meth c 3 0 0 D aC b0 σ0 (.inl (some (.long v))) τ 37 [] [.long (s0)] σ := by
  unfold J_X5_word_37 at hm
  obtain ⟨rfl, rfl⟩ := ret_e hm
  exact zx_lret C rfl rfl rfl dX5_word_37
set_option maxRecDepth 100000 in
set_option maxHeartbeats 1000000 in
theorem j_X5_word_22 {p : Program} {l : Launch} {e : Env} {s : State} {m : MethodId} {args : Array Value} {below : List Frame} {meth : Method} {c : Code} {D : va_G} {aC : Nat → ClassId} {b0 fu : Nat} {σ0 τ : tM} {v : Int64}  (C : tCx p l s m args meth c yX5_word.cls cX5_word 3 (some .long) D aC b0 σ0) (htab : ∀ x ∈ c.exceptionTable.toList, False) (hin : meth.name = yX5_word.name)   {σ : tM} (hm : J_X5_word_22 b0 fu   σ = some (v, τ)) : tX p l e s m args below meth c 3 0 0 D aC b0 σ0 (.inl (some (.long v))) τ 22 [] [] σ := by
  unfold J_X5_word_22 at hm
  refine zx_lconst (v := 0) C dX5_word_22 (by decide) ?_
  refine zx_goto C 37 dX5_word_23 (by decide) ?_
  exact zx_lv [] [] rfl (j_X5_word_37 C htab hin    hm)
set_option maxRecDepth 100000 in
set_option maxHeartbeats 1000000 in
theorem c_X5_word {l : Launch} {D : va_G} {aC : Nat → ClassId} {b0 fu : Nat} {a0 : Nat} {p0 : Int32} {p1 : Int32} {σ τ : tM} {v : Int64} (hm : m_X5_word b0 fu a0 p0 p1 σ = some (v, τ)) : tMt l D aC b0 yX5_word (Cond.code yX5_word cX5_word 3 (some .long)) 0 0 [.ref (a0), .int (p0), .int (p1)] σ (.inl (some (.long v))) τ := by
  unfold m_X5_word at hm
  obtain ⟨hg, hm⟩ := grw_e hm
  refine tMt_of (n := 0) rfl (Nat.le_of_ble_eq_true rfl) hg ?_
  intro p e s m below meth c C htab hin
  refine zx_lv [0, 1, 2] [(0, .ref (a0)), (1, .int (p0)), (2, .int (p1))] rfl ?_
  refine zx_iload_n C dX5_word_0 1 rfl ?_
  refine zx_if_lt C 22 dX5_word_1 (by decide) (fun c1 => ?_) (fun c1 => ?_)
  · replace hm := ip_e hm c1
    exact zx_lv [] [] rfl (j_X5_word_22 C htab hin    hm)
  · replace hm := in_e hm c1
    refine zx_iload_n C dX5_word_4 1 rfl ?_
    refine zx_aload_n C dX5_word_5 0 rfl ?_
    obtain ⟨k2, i3, hm⟩ := ckO_e hm
    refine zx_get (j := 7) C tC_5 k2 i3 ⟨by decide, Or.inl W_1_104⟩ dX5_word_6 (.int (tI (σ) (a0) 7)) rfl ?_
    refine zx_icmp_ge C 22 dX5_word_9 (by decide) (fun c4 => ?_) (fun c4 => ?_)
    · replace hm := ip_e hm c4
      exact zx_lv [] [] rfl (j_X5_word_22 C htab hin    hm)
    · replace hm := in_e hm c4
      refine zx_iload_n C dX5_word_12 2 rfl ?_
      refine zx_if_lt C 22 dX5_word_13 (by decide) (fun c5 => ?_) (fun c5 => ?_)
      · replace hm := ip_e hm c5
        exact zx_lv [] [] rfl (j_X5_word_22 C htab hin    hm)
      · replace hm := in_e hm c5
        refine zx_iload_n C dX5_word_16 2 rfl ?_
        refine zx_bipush (v := 32) C dX5_word_17 (by decide) ?_
        refine zx_icmp_lt C 26 dX5_word_19 (by decide) (fun c6 => ?_) (fun c6 => ?_)
        · replace hm := ip_e hm c6
          refine zx_aload_n C dX5_word_26 0 rfl ?_
          obtain ⟨a7, h8, hm⟩ := osm_e hm
          refine zx_get (j := 0) C tC_5 k2 i3 ⟨by decide, Or.inl W_1_94⟩ dX5_word_27 (.ref a7) (rf_s h8) ?_
          refine zx_iload_n C dX5_word_30 1 rfl ?_
          refine zx_bipush (v := 32) C dX5_word_31 (by decide) ?_
          refine zx_imul C dX5_word_33 ?_
          refine zx_iload_n C dX5_word_34 2 rfl ?_
          refine zx_iadd C dX5_word_35 ?_
          obtain ⟨n11, k9, i10, hm⟩ := ckR_e hm
          obtain ⟨h12, hm⟩ := ckI_e hm
          refine zx_lald C k9 i10 h12 dX5_word_36 ?_
          exact zx_lv [] [] rfl (j_X5_word_37 C htab hin    hm)
        · replace hm := in_e hm c6
          exact zx_lv [] [] rfl (j_X5_word_22 C htab hin    hm)
abbrev cX5_octet : ByteArray := prog_7_method_14_code
def yX5_octet : MethodName := ⟨"SyncTree$Space", "octet", "(II)I"⟩
theorem Y_X5_octet : tY yX5_octet cX5_octet 3 (some .int) 2 := ⟨W_4_123, W_1_3, ⟨by decide +kernel, by decide +kernel⟩, by decide +kernel⟩
theorem dX5_octet_0 : decode cX5_octet 0 = .ok (.iload_n 1, 1) := by decide +kernel
theorem dX5_octet_1 : decode cX5_octet 1 = .ok (.ifCond .lt 22, 3) := by decide +kernel
theorem dX5_octet_4 : decode cX5_octet 4 = .ok (.iload_n 1, 1) := by decide +kernel
theorem dX5_octet_5 : decode cX5_octet 5 = .ok (.aload_n 0, 1) := by decide +kernel
theorem dX5_octet_6 : decode cX5_octet 6 = .ok (.getfield 48, 3) := by decide +kernel
theorem dX5_octet_9 : decode cX5_octet 9 = .ok (.if_icmp .ge 14, 3) := by decide +kernel
theorem dX5_octet_12 : decode cX5_octet 12 = .ok (.iload_n 2, 1) := by decide +kernel
theorem dX5_octet_13 : decode cX5_octet 13 = .ok (.ifCond .lt 10, 3) := by decide +kernel
theorem dX5_octet_16 : decode cX5_octet 16 = .ok (.iload_n 2, 1) := by decide +kernel
theorem dX5_octet_17 : decode cX5_octet 17 = .ok (.sipush 256, 3) := by decide +kernel
theorem dX5_octet_20 : decode cX5_octet 20 = .ok (.if_icmp .lt 5, 3) := by decide +kernel
theorem dX5_octet_23 : decode cX5_octet 23 = .ok (.iconst 0, 1) := by decide +kernel
theorem dX5_octet_24 : decode cX5_octet 24 = .ok (.ireturn, 1) := by decide +kernel
theorem dX5_octet_25 : decode cX5_octet 25 = .ok (.aload_n 0, 1) := by decide +kernel
theorem dX5_octet_26 : decode cX5_octet 26 = .ok (.getfield 10, 3) := by decide +kernel
theorem dX5_octet_29 : decode cX5_octet 29 = .ok (.iload_n 1, 1) := by decide +kernel
theorem dX5_octet_30 : decode cX5_octet 30 = .ok (.bipush 32, 2) := by decide +kernel
theorem dX5_octet_32 : decode cX5_octet 32 = .ok (.imul, 1) := by decide +kernel
theorem dX5_octet_33 : decode cX5_octet 33 = .ok (.iload_n 2, 1) := by decide +kernel
theorem dX5_octet_34 : decode cX5_octet 34 = .ok (.iconst 3, 1) := by decide +kernel
theorem dX5_octet_35 : decode cX5_octet 35 = .ok (.ishr, 1) := by decide +kernel
theorem dX5_octet_36 : decode cX5_octet 36 = .ok (.iadd, 1) := by decide +kernel
theorem dX5_octet_37 : decode cX5_octet 37 = .ok (.laload, 1) := by decide +kernel
theorem dX5_octet_38 : decode cX5_octet 38 = .ok (.iload_n 2, 1) := by decide +kernel
theorem dX5_octet_39 : decode cX5_octet 39 = .ok (.bipush 7, 2) := by decide +kernel
theorem dX5_octet_41 : decode cX5_octet 41 = .ok (.iand, 1) := by decide +kernel
theorem dX5_octet_42 : decode cX5_octet 42 = .ok (.iconst 3, 1) := by decide +kernel
theorem dX5_octet_43 : decode cX5_octet 43 = .ok (.ishl, 1) := by decide +kernel
theorem dX5_octet_44 : decode cX5_octet 44 = .ok (.lushr, 1) := by decide +kernel
theorem dX5_octet_45 : decode cX5_octet 45 = .ok (.l2i, 1) := by decide +kernel
theorem dX5_octet_46 : decode cX5_octet 46 = .ok (.sipush 255, 3) := by decide +kernel
theorem dX5_octet_49 : decode cX5_octet 49 = .ok (.iand, 1) := by decide +kernel
theorem dX5_octet_50 : decode cX5_octet 50 = .ok (.ireturn, 1) := by decide +kernel
def J_X5_octet_23 (b0 fu : Nat)   (σ : tM) : Option ((Int32) × tM) := some (0, σ)
def m_X5_octet (b0 fu : Nat) (a0 : Nat) (p0 : Int32) (p1 : Int32) (σ : tM) : Option ((Int32) × tM) := grw σ (if (p0) < (0) then J_X5_octet_23 b0 fu    (σ) else ckO b0 (σ) (a0) 5 (if (tI (σ) (a0) 7) ≤ (p0) then J_X5_octet_23 b0 fu    (σ) else if (p1) < (0) then J_X5_octet_23 b0 fu    (σ) else if (p1) < (256) then osm (tA (σ) (a0) 0) (fun a7 => ckR b0 (σ) (a7) 3 (fun n11 => ckI (((p0) * (32)) + ((p1) >>> (((3 : Int32)) &&& 31))) (n11) (some (((((tL (σ) (a7) ((((p0) * (32)) + ((p1) >>> (((3 : Int32)) &&& 31))).toNatClampNeg)).toUInt64 >>> ((((p1) &&& (7)) <<< (((3 : Int32)) &&& 31)).toInt64.toUInt64 &&& Int64.toUInt64 63)).toInt64).toInt32) &&& (255), σ)))) else J_X5_octet_23 b0 fu    (σ)))
set_option maxRecDepth 100000 in
set_option maxHeartbeats 1000000 in
theorem j_X5_octet_23 {p : Program} {l : Launch} {e : Env} {s : State} {m : MethodId} {args : Array Value} {below : List Frame} {meth : Method} {c : Code} {D : va_G} {aC : Nat → ClassId} {b0 fu : Nat} {σ0 τ : tM} {v : Int32}  (C : tCx p l s m args meth c yX5_octet.cls cX5_octet 3 (some .int) D aC b0 σ0) (htab : ∀ x ∈ c.exceptionTable.toList, False) (hin : meth.name = yX5_octet.name)   {σ : tM} (hm : J_X5_octet_23 b0 fu   σ = some (v, τ)) : tX p l e s m args below meth c 3 0 0 D aC b0 σ0 (.inl (some (.int v))) τ 23 [] [] σ := by
  unfold J_X5_octet_23 at hm
  refine zx_iconst (v := 0) C dX5_octet_23 (by decide) ?_
  obtain ⟨rfl, rfl⟩ := ret_e hm
  exact zx_iret C rfl rfl rfl dX5_octet_24
set_option maxRecDepth 100000 in
set_option maxHeartbeats 1000000 in
theorem c_X5_octet {l : Launch} {D : va_G} {aC : Nat → ClassId} {b0 fu : Nat} {a0 : Nat} {p0 : Int32} {p1 : Int32} {σ τ : tM} {v : Int32} (hm : m_X5_octet b0 fu a0 p0 p1 σ = some (v, τ)) : tMt l D aC b0 yX5_octet (Cond.code yX5_octet cX5_octet 3 (some .int)) 0 0 [.ref (a0), .int (p0), .int (p1)] σ (.inl (some (.int v))) τ := by
  unfold m_X5_octet at hm
  obtain ⟨hg, hm⟩ := grw_e hm
  refine tMt_of (n := 0) rfl (Nat.le_of_ble_eq_true rfl) hg ?_
  intro p e s m below meth c C htab hin
  refine zx_lv [0, 1, 2] [(0, .ref (a0)), (1, .int (p0)), (2, .int (p1))] rfl ?_
  refine zx_iload_n C dX5_octet_0 1 rfl ?_
  refine zx_if_lt C 23 dX5_octet_1 (by decide) (fun c1 => ?_) (fun c1 => ?_)
  · replace hm := ip_e hm c1
    exact zx_lv [] [] rfl (j_X5_octet_23 C htab hin    hm)
  · replace hm := in_e hm c1
    refine zx_iload_n C dX5_octet_4 1 rfl ?_
    refine zx_aload_n C dX5_octet_5 0 rfl ?_
    obtain ⟨k2, i3, hm⟩ := ckO_e hm
    refine zx_get (j := 7) C tC_5 k2 i3 ⟨by decide, Or.inl W_1_104⟩ dX5_octet_6 (.int (tI (σ) (a0) 7)) rfl ?_
    refine zx_icmp_ge C 23 dX5_octet_9 (by decide) (fun c4 => ?_) (fun c4 => ?_)
    · replace hm := ip_e hm c4
      exact zx_lv [] [] rfl (j_X5_octet_23 C htab hin    hm)
    · replace hm := in_e hm c4
      refine zx_iload_n C dX5_octet_12 2 rfl ?_
      refine zx_if_lt C 23 dX5_octet_13 (by decide) (fun c5 => ?_) (fun c5 => ?_)
      · replace hm := ip_e hm c5
        exact zx_lv [] [] rfl (j_X5_octet_23 C htab hin    hm)
      · replace hm := in_e hm c5
        refine zx_iload_n C dX5_octet_16 2 rfl ?_
        refine zx_sipush (v := 256) C dX5_octet_17 (by decide) ?_
        refine zx_icmp_lt C 25 dX5_octet_20 (by decide) (fun c6 => ?_) (fun c6 => ?_)
        · replace hm := ip_e hm c6
          refine zx_aload_n C dX5_octet_25 0 rfl ?_
          obtain ⟨a7, h8, hm⟩ := osm_e hm
          refine zx_get (j := 0) C tC_5 k2 i3 ⟨by decide, Or.inl W_1_94⟩ dX5_octet_26 (.ref a7) (rf_s h8) ?_
          refine zx_iload_n C dX5_octet_29 1 rfl ?_
          refine zx_bipush (v := 32) C dX5_octet_30 (by decide) ?_
          refine zx_imul C dX5_octet_32 ?_
          refine zx_iload_n C dX5_octet_33 2 rfl ?_
          refine zx_iconst (v := 3) C dX5_octet_34 (by decide) ?_
          refine zx_ishr C dX5_octet_35 ?_
          refine zx_iadd C dX5_octet_36 ?_
          obtain ⟨n11, k9, i10, hm⟩ := ckR_e hm
          obtain ⟨h12, hm⟩ := ckI_e hm
          refine zx_lald C k9 i10 h12 dX5_octet_37 ?_
          refine zx_iload_n C dX5_octet_38 2 rfl ?_
          refine zx_bipush (v := 7) C dX5_octet_39 (by decide) ?_
          refine zx_iand C dX5_octet_41 ?_
          refine zx_iconst (v := 3) C dX5_octet_42 (by decide) ?_
          refine zx_ishl C dX5_octet_43 ?_
          refine zx_lushr C dX5_octet_44 ?_
          refine zx_l2i C dX5_octet_45 ?_
          refine zx_sipush (v := 255) C dX5_octet_46 (by decide) ?_
          refine zx_iand C dX5_octet_49 ?_
          obtain ⟨rfl, rfl⟩ := ret_e hm
          exact zx_iret C rfl rfl rfl dX5_octet_50
        · replace hm := in_e hm c6
          exact zx_lv [] [] rfl (j_X5_octet_23 C htab hin    hm)
abbrev cX5_setOctet : ByteArray := prog_7_method_15_code
def yX5_setOctet : MethodName := ⟨"SyncTree$Space", "setOctet", "(III)V"⟩
theorem Y_X5_setOctet : tY yX5_setOctet cX5_setOctet 6 none 3 := ⟨W_4_183, W_1_3, ⟨by decide +kernel, by decide +kernel⟩, by decide +kernel⟩
theorem dX5_setOctet_0 : decode cX5_setOctet 0 = .ok (.iload_n 1, 1) := by decide +kernel
theorem dX5_setOctet_1 : decode cX5_setOctet 1 = .ok (.ifCond .le 22, 3) := by decide +kernel
theorem dX5_setOctet_4 : decode cX5_setOctet 4 = .ok (.iload_n 1, 1) := by decide +kernel
theorem dX5_setOctet_5 : decode cX5_setOctet 5 = .ok (.aload_n 0, 1) := by decide +kernel
theorem dX5_setOctet_6 : decode cX5_setOctet 6 = .ok (.getfield 48, 3) := by decide +kernel
theorem dX5_setOctet_9 : decode cX5_setOctet 9 = .ok (.if_icmp .ge 14, 3) := by decide +kernel
theorem dX5_setOctet_12 : decode cX5_setOctet 12 = .ok (.iload_n 2, 1) := by decide +kernel
theorem dX5_setOctet_13 : decode cX5_setOctet 13 = .ok (.ifCond .lt 10, 3) := by decide +kernel
theorem dX5_setOctet_16 : decode cX5_setOctet 16 = .ok (.iload_n 2, 1) := by decide +kernel
theorem dX5_setOctet_17 : decode cX5_setOctet 17 = .ok (.sipush 256, 3) := by decide +kernel
theorem dX5_setOctet_20 : decode cX5_setOctet 20 = .ok (.if_icmp .lt 4, 3) := by decide +kernel
theorem dX5_setOctet_23 : decode cX5_setOctet 23 = .ok (.return_, 1) := by decide +kernel
theorem dX5_setOctet_24 : decode cX5_setOctet 24 = .ok (.iload_n 1, 1) := by decide +kernel
theorem dX5_setOctet_25 : decode cX5_setOctet 25 = .ok (.bipush 32, 2) := by decide +kernel
theorem dX5_setOctet_27 : decode cX5_setOctet 27 = .ok (.imul, 1) := by decide +kernel
theorem dX5_setOctet_28 : decode cX5_setOctet 28 = .ok (.iload_n 2, 1) := by decide +kernel
theorem dX5_setOctet_29 : decode cX5_setOctet 29 = .ok (.iconst 3, 1) := by decide +kernel
theorem dX5_setOctet_30 : decode cX5_setOctet 30 = .ok (.ishr, 1) := by decide +kernel
theorem dX5_setOctet_31 : decode cX5_setOctet 31 = .ok (.iadd, 1) := by decide +kernel
theorem dX5_setOctet_32 : decode cX5_setOctet 32 = .ok (.istore 4, 2) := by decide +kernel
theorem dX5_setOctet_34 : decode cX5_setOctet 34 = .ok (.iload_n 2, 1) := by decide +kernel
theorem dX5_setOctet_35 : decode cX5_setOctet 35 = .ok (.bipush 7, 2) := by decide +kernel
theorem dX5_setOctet_37 : decode cX5_setOctet 37 = .ok (.iand, 1) := by decide +kernel
theorem dX5_setOctet_38 : decode cX5_setOctet 38 = .ok (.iconst 3, 1) := by decide +kernel
theorem dX5_setOctet_39 : decode cX5_setOctet 39 = .ok (.ishl, 1) := by decide +kernel
theorem dX5_setOctet_40 : decode cX5_setOctet 40 = .ok (.istore 5, 2) := by decide +kernel
theorem dX5_setOctet_42 : decode cX5_setOctet 42 = .ok (.aload_n 0, 1) := by decide +kernel
theorem dX5_setOctet_43 : decode cX5_setOctet 43 = .ok (.getfield 10, 3) := by decide +kernel
theorem dX5_setOctet_46 : decode cX5_setOctet 46 = .ok (.iload 4, 2) := by decide +kernel
theorem dX5_setOctet_48 : decode cX5_setOctet 48 = .ok (.aload_n 0, 1) := by decide +kernel
theorem dX5_setOctet_49 : decode cX5_setOctet 49 = .ok (.getfield 10, 3) := by decide +kernel
theorem dX5_setOctet_52 : decode cX5_setOctet 52 = .ok (.iload 4, 2) := by decide +kernel
theorem dX5_setOctet_54 : decode cX5_setOctet 54 = .ok (.laload, 1) := by decide +kernel
theorem dX5_setOctet_55 : decode cX5_setOctet 55 = .ok (.ldc2_w 100, 3) := by decide +kernel
theorem dX5_setOctet_58 : decode cX5_setOctet 58 = .ok (.iload 5, 2) := by decide +kernel
theorem dX5_setOctet_60 : decode cX5_setOctet 60 = .ok (.lshl, 1) := by decide +kernel
theorem dX5_setOctet_61 : decode cX5_setOctet 61 = .ok (.ldc2_w 102, 3) := by decide +kernel
theorem dX5_setOctet_64 : decode cX5_setOctet 64 = .ok (.lxor, 1) := by decide +kernel
theorem dX5_setOctet_65 : decode cX5_setOctet 65 = .ok (.land, 1) := by decide +kernel
theorem dX5_setOctet_66 : decode cX5_setOctet 66 = .ok (.iload_n 3, 1) := by decide +kernel
theorem dX5_setOctet_67 : decode cX5_setOctet 67 = .ok (.sipush 255, 3) := by decide +kernel
theorem dX5_setOctet_70 : decode cX5_setOctet 70 = .ok (.iand, 1) := by decide +kernel
theorem dX5_setOctet_71 : decode cX5_setOctet 71 = .ok (.i2l, 1) := by decide +kernel
theorem dX5_setOctet_72 : decode cX5_setOctet 72 = .ok (.iload 5, 2) := by decide +kernel
theorem dX5_setOctet_74 : decode cX5_setOctet 74 = .ok (.lshl, 1) := by decide +kernel
theorem dX5_setOctet_75 : decode cX5_setOctet 75 = .ok (.lor, 1) := by decide +kernel
theorem dX5_setOctet_76 : decode cX5_setOctet 76 = .ok (.lastore, 1) := by decide +kernel
theorem dX5_setOctet_77 : decode cX5_setOctet 77 = .ok (.return_, 1) := by decide +kernel
def J_X5_setOctet_23 (b0 fu : Nat)   (σ : tM) : Option ((Unit) × tM) := some ((), σ)
def m_X5_setOctet (b0 fu : Nat) (a0 : Nat) (p0 : Int32) (p1 : Int32) (p2 : Int32) (σ : tM) : Option ((Unit) × tM) := grw σ (if (p0) ≤ (0) then J_X5_setOctet_23 b0 fu    (σ) else ckO b0 (σ) (a0) 5 (if (tI (σ) (a0) 7) ≤ (p0) then J_X5_setOctet_23 b0 fu    (σ) else if (p1) < (0) then J_X5_setOctet_23 b0 fu    (σ) else if (p1) < (256) then ltb ((((p0) * (32)) + ((p1) >>> (((3 : Int32)) &&& 31)) : Int32)) (fun y7 => ltb ((((p1) &&& (7)) <<< (((3 : Int32)) &&& 31) : Int32)) (fun y8 => osm (tA (σ) (a0) 0) (fun a9 => osm (tA (σ) (a0) 0) (fun a11 => ckR b0 (σ) (a11) 3 (fun n15 => ckI (y7) (n15) (ckR b0 (σ) (a9) 3 (fun n19 => ckI (y7) (n19) (some ((), sL (σ) (a9) ((y7).toNatClampNeg) (((tL (σ) (a11) ((y7).toNatClampNeg)) &&& (((255) <<< ((y8).toInt64 &&& 63)) ^^^ ((-1)))) ||| ((((p2) &&& (255)).toInt64) <<< ((y8).toInt64 &&& 63)))))))))))) else J_X5_setOctet_23 b0 fu    (σ)))
set_option maxRecDepth 100000 in
set_option maxHeartbeats 1000000 in
theorem j_X5_setOctet_23 {p : Program} {l : Launch} {e : Env} {s : State} {m : MethodId} {args : Array Value} {below : List Frame} {meth : Method} {c : Code} {D : va_G} {aC : Nat → ClassId} {b0 fu : Nat} {σ0 τ : tM} {v : Unit}  (C : tCx p l s m args meth c yX5_setOctet.cls cX5_setOctet 6 none D aC b0 σ0) (htab : ∀ x ∈ c.exceptionTable.toList, False) (hin : meth.name = yX5_setOctet.name)   {σ : tM} (hm : J_X5_setOctet_23 b0 fu   σ = some (v, τ)) : tX p l e s m args below meth c 6 0 0 D aC b0 σ0 (.inl none) τ 23 [] [] σ := by
  unfold J_X5_setOctet_23 at hm
  obtain ⟨rfl, rfl⟩ := ret_e hm
  exact zx_vret C rfl rfl rfl dX5_setOctet_23
set_option maxRecDepth 100000 in
set_option maxHeartbeats 1000000 in
theorem c_X5_setOctet {l : Launch} {D : va_G} {aC : Nat → ClassId} {b0 fu : Nat} {a0 : Nat} {p0 : Int32} {p1 : Int32} {p2 : Int32} {σ τ : tM} {v : Unit} (hm : m_X5_setOctet b0 fu a0 p0 p1 p2 σ = some (v, τ)) : tMt l D aC b0 yX5_setOctet (Cond.code yX5_setOctet cX5_setOctet 6 none) 0 0 [.ref (a0), .int (p0), .int (p1), .int (p2)] σ (.inl none) τ := by
  unfold m_X5_setOctet at hm
  obtain ⟨hg, hm⟩ := grw_e hm
  refine tMt_of (n := 0) rfl (Nat.le_of_ble_eq_true rfl) hg ?_
  intro p e s m below meth c C htab hin
  refine zx_lv [0, 1, 2, 3] [(0, .ref (a0)), (1, .int (p0)), (2, .int (p1)), (3, .int (p2))] rfl ?_
  refine zx_iload_n C dX5_setOctet_0 1 rfl ?_
  refine zx_if_le C 23 dX5_setOctet_1 (by decide) (fun c1 => ?_) (fun c1 => ?_)
  · replace hm := ip_e hm c1
    exact zx_lv [] [] rfl (j_X5_setOctet_23 C htab hin    hm)
  · replace hm := in_e hm c1
    refine zx_iload_n C dX5_setOctet_4 1 rfl ?_
    refine zx_aload_n C dX5_setOctet_5 0 rfl ?_
    obtain ⟨k2, i3, hm⟩ := ckO_e hm
    refine zx_get (j := 7) C tC_5 k2 i3 ⟨by decide, Or.inl W_1_104⟩ dX5_setOctet_6 (.int (tI (σ) (a0) 7)) rfl ?_
    refine zx_icmp_ge C 23 dX5_setOctet_9 (by decide) (fun c4 => ?_) (fun c4 => ?_)
    · replace hm := ip_e hm c4
      exact zx_lv [] [] rfl (j_X5_setOctet_23 C htab hin    hm)
    · replace hm := in_e hm c4
      refine zx_iload_n C dX5_setOctet_12 2 rfl ?_
      refine zx_if_lt C 23 dX5_setOctet_13 (by decide) (fun c5 => ?_) (fun c5 => ?_)
      · replace hm := ip_e hm c5
        exact zx_lv [] [] rfl (j_X5_setOctet_23 C htab hin    hm)
      · replace hm := in_e hm c5
        refine zx_iload_n C dX5_setOctet_16 2 rfl ?_
        refine zx_sipush (v := 256) C dX5_setOctet_17 (by decide) ?_
        refine zx_icmp_lt C 24 dX5_setOctet_20 (by decide) (fun c6 => ?_) (fun c6 => ?_)
        · replace hm := ip_e hm c6
          refine zx_iload_n C dX5_setOctet_24 1 rfl ?_
          refine zx_bipush (v := 32) C dX5_setOctet_25 (by decide) ?_
          refine zx_imul C dX5_setOctet_27 ?_
          refine zx_iload_n C dX5_setOctet_28 2 rfl ?_
          refine zx_iconst (v := 3) C dX5_setOctet_29 (by decide) ?_
          refine zx_ishr C dX5_setOctet_30 ?_
          refine zx_iadd C dX5_setOctet_31 ?_
          refine zx_topi (fun y7 hy7 => ?_)
          replace hm := ltb_e hm hy7
          refine zx_istore C [(4, .int (y7)), (0, .ref (a0)), (1, .int (p0)), (2, .int (p1)), (3, .int (p2))] dX5_setOctet_32 (by decide) rfl ?_
          refine zx_iload_n C dX5_setOctet_34 3 rfl ?_
          refine zx_bipush (v := 7) C dX5_setOctet_35 (by decide) ?_
          refine zx_iand C dX5_setOctet_37 ?_
          refine zx_iconst (v := 3) C dX5_setOctet_38 (by decide) ?_
          refine zx_ishl C dX5_setOctet_39 ?_
          refine zx_topi (fun y8 hy8 => ?_)
          replace hm := ltb_e hm hy8
          refine zx_istore C [(5, .int (y8)), (4, .int (y7)), (0, .ref (a0)), (1, .int (p0)), (2, .int (p1)), (3, .int (p2))] dX5_setOctet_40 (by decide) rfl ?_
          refine zx_aload_n C dX5_setOctet_42 2 rfl ?_
          obtain ⟨a9, h10, hm⟩ := osm_e hm
          refine zx_get (j := 0) C tC_5 k2 i3 ⟨by decide, Or.inl W_1_94⟩ dX5_setOctet_43 (.ref a9) (rf_s h10) ?_
          refine zx_iload C dX5_setOctet_46 1 rfl ?_
          refine zx_aload_n C dX5_setOctet_48 2 rfl ?_
          obtain ⟨a11, h12, hm⟩ := osm_e hm
          refine zx_get (j := 0) C tC_5 k2 i3 ⟨by decide, Or.inl W_1_94⟩ dX5_setOctet_49 (.ref a11) (rf_s h12) ?_
          refine zx_iload C dX5_setOctet_52 1 rfl ?_
          obtain ⟨n15, k13, i14, hm⟩ := ckR_e hm
          obtain ⟨h16, hm⟩ := ckI_e hm
          refine zx_lald C k13 i14 h16 dX5_setOctet_54 ?_
          refine zx_ldc2 (v := 255) C W_4_184 dX5_setOctet_55 ?_
          refine zx_iload C dX5_setOctet_58 0 rfl ?_
          refine zx_lshl C dX5_setOctet_60 ?_
          refine zx_ldc2 (v := (-1)) C W_4_185 dX5_setOctet_61 ?_
          refine zx_lxor C dX5_setOctet_64 ?_
          refine zx_land C dX5_setOctet_65 ?_
          refine zx_iload_n C dX5_setOctet_66 5 rfl ?_
          refine zx_sipush (v := 255) C dX5_setOctet_67 (by decide) ?_
          refine zx_iand C dX5_setOctet_70 ?_
          refine zx_i2l C dX5_setOctet_71 ?_
          refine zx_iload C dX5_setOctet_72 0 rfl ?_
          refine zx_lshl C dX5_setOctet_74 ?_
          refine zx_lor C dX5_setOctet_75 ?_
          obtain ⟨n19, k17, i18, hm⟩ := ckR_e hm
          obtain ⟨h20, hm⟩ := ckI_e hm
          refine zx_last C k17 i18 h20 dX5_setOctet_76 ?_
          obtain ⟨rfl, rfl⟩ := ret_e hm
          exact zx_vret C rfl rfl rfl dX5_setOctet_77
        · replace hm := in_e hm c6
          exact zx_lv [] [] rfl (j_X5_setOctet_23 C htab hin    hm)
abbrev cX5_setSpan : ByteArray := prog_7_method_16_code
def yX5_setSpan : MethodName := ⟨"SyncTree$Space", "setSpan", "(IIII)V"⟩
theorem Y_X5_setSpan : tY yX5_setSpan cX5_setSpan 9 none 4 := ⟨W_5_77, W_1_3, ⟨by decide +kernel, by decide +kernel⟩, by decide +kernel⟩
theorem dX5_setSpan_0 : decode cX5_setSpan 0 = .ok (.iload 4, 2) := by decide +kernel
theorem dX5_setSpan_2 : decode cX5_setSpan 2 = .ok (.sipush 255, 3) := by decide +kernel
theorem dX5_setSpan_5 : decode cX5_setSpan 5 = .ok (.iand, 1) := by decide +kernel
theorem dX5_setSpan_6 : decode cX5_setSpan 6 = .ok (.i2l, 1) := by decide +kernel
theorem dX5_setSpan_7 : decode cX5_setSpan 7 = .ok (.ldc2_w 104, 3) := by decide +kernel
theorem dX5_setSpan_10 : decode cX5_setSpan 10 = .ok (.lmul, 1) := by decide +kernel
theorem dX5_setSpan_11 : decode cX5_setSpan 11 = .ok (.lstore 5, 2) := by decide +kernel
theorem dX5_setSpan_13 : decode cX5_setSpan 13 = .ok (.iload_n 3, 1) := by decide +kernel
theorem dX5_setSpan_14 : decode cX5_setSpan 14 = .ok (.sipush 256, 3) := by decide +kernel
theorem dX5_setSpan_17 : decode cX5_setSpan 17 = .ok (.invokestatic 39, 3) := by decide +kernel
theorem dX5_setSpan_20 : decode cX5_setSpan 20 = .ok (.istore 7, 2) := by decide +kernel
theorem dX5_setSpan_22 : decode cX5_setSpan 22 = .ok (.iload_n 2, 1) := by decide +kernel
theorem dX5_setSpan_23 : decode cX5_setSpan 23 = .ok (.iconst 0, 1) := by decide +kernel
theorem dX5_setSpan_24 : decode cX5_setSpan 24 = .ok (.invokestatic 45, 3) := by decide +kernel
theorem dX5_setSpan_27 : decode cX5_setSpan 27 = .ok (.istore 8, 2) := by decide +kernel
theorem dX5_setSpan_29 : decode cX5_setSpan 29 = .ok (.iload 8, 2) := by decide +kernel
theorem dX5_setSpan_31 : decode cX5_setSpan 31 = .ok (.iload 7, 2) := by decide +kernel
theorem dX5_setSpan_33 : decode cX5_setSpan 33 = .ok (.if_icmp .ge 70, 3) := by decide +kernel
theorem dX5_setSpan_36 : decode cX5_setSpan 36 = .ok (.iload 8, 2) := by decide +kernel
theorem dX5_setSpan_38 : decode cX5_setSpan 38 = .ok (.bipush 7, 2) := by decide +kernel
theorem dX5_setSpan_40 : decode cX5_setSpan 40 = .ok (.iand, 1) := by decide +kernel
theorem dX5_setSpan_41 : decode cX5_setSpan 41 = .ok (.ifCond .ne 47, 3) := by decide +kernel
theorem dX5_setSpan_44 : decode cX5_setSpan 44 = .ok (.iload 7, 2) := by decide +kernel
theorem dX5_setSpan_46 : decode cX5_setSpan 46 = .ok (.iload 8, 2) := by decide +kernel
theorem dX5_setSpan_48 : decode cX5_setSpan 48 = .ok (.isub, 1) := by decide +kernel
theorem dX5_setSpan_49 : decode cX5_setSpan 49 = .ok (.bipush 8, 2) := by decide +kernel
theorem dX5_setSpan_51 : decode cX5_setSpan 51 = .ok (.if_icmp .lt 37, 3) := by decide +kernel
theorem dX5_setSpan_54 : decode cX5_setSpan 54 = .ok (.iload_n 1, 1) := by decide +kernel
theorem dX5_setSpan_55 : decode cX5_setSpan 55 = .ok (.ifCond .le 33, 3) := by decide +kernel
theorem dX5_setSpan_58 : decode cX5_setSpan 58 = .ok (.iload_n 1, 1) := by decide +kernel
theorem dX5_setSpan_59 : decode cX5_setSpan 59 = .ok (.aload_n 0, 1) := by decide +kernel
theorem dX5_setSpan_60 : decode cX5_setSpan 60 = .ok (.getfield 48, 3) := by decide +kernel
theorem dX5_setSpan_63 : decode cX5_setSpan 63 = .ok (.if_icmp .ge 25, 3) := by decide +kernel
theorem dX5_setSpan_66 : decode cX5_setSpan 66 = .ok (.aload_n 0, 1) := by decide +kernel
theorem dX5_setSpan_67 : decode cX5_setSpan 67 = .ok (.getfield 10, 3) := by decide +kernel
theorem dX5_setSpan_70 : decode cX5_setSpan 70 = .ok (.iload_n 1, 1) := by decide +kernel
theorem dX5_setSpan_71 : decode cX5_setSpan 71 = .ok (.bipush 32, 2) := by decide +kernel
theorem dX5_setSpan_73 : decode cX5_setSpan 73 = .ok (.imul, 1) := by decide +kernel
theorem dX5_setSpan_74 : decode cX5_setSpan 74 = .ok (.iload 8, 2) := by decide +kernel
theorem dX5_setSpan_76 : decode cX5_setSpan 76 = .ok (.iconst 3, 1) := by decide +kernel
theorem dX5_setSpan_77 : decode cX5_setSpan 77 = .ok (.ishr, 1) := by decide +kernel
theorem dX5_setSpan_78 : decode cX5_setSpan 78 = .ok (.iadd, 1) := by decide +kernel
theorem dX5_setSpan_79 : decode cX5_setSpan 79 = .ok (.lload 5, 2) := by decide +kernel
theorem dX5_setSpan_81 : decode cX5_setSpan 81 = .ok (.lastore, 1) := by decide +kernel
theorem dX5_setSpan_82 : decode cX5_setSpan 82 = .ok (.iinc 8 8, 3) := by decide +kernel
theorem dX5_setSpan_85 : decode cX5_setSpan 85 = .ok (.goto (-56), 3) := by decide +kernel
theorem dX5_setSpan_88 : decode cX5_setSpan 88 = .ok (.aload_n 0, 1) := by decide +kernel
theorem dX5_setSpan_89 : decode cX5_setSpan 89 = .ok (.iload_n 1, 1) := by decide +kernel
theorem dX5_setSpan_90 : decode cX5_setSpan 90 = .ok (.iload 8, 2) := by decide +kernel
theorem dX5_setSpan_92 : decode cX5_setSpan 92 = .ok (.iload 4, 2) := by decide +kernel
theorem dX5_setSpan_94 : decode cX5_setSpan 94 = .ok (.invokevirtual 106, 3) := by decide +kernel
theorem dX5_setSpan_97 : decode cX5_setSpan 97 = .ok (.iinc 8 1, 3) := by decide +kernel
theorem dX5_setSpan_100 : decode cX5_setSpan 100 = .ok (.goto (-71), 3) := by decide +kernel
theorem dX5_setSpan_103 : decode cX5_setSpan 103 = .ok (.return_, 1) := by decide +kernel
def J_X5_setSpan_88 (b0 fu : Nat) (rc29 : Nat → Int32 → Int32 → Int64 → Int32 → Int32 → tM → Option ((Unit) × tM)) (x0 : Nat) (x1 : Int32) (x4 : Int32) (x5 : Int64) (x7 : Int32) (x8 : Int32) (σ : tM) : Option ((Unit) × tM) := ckO b0 (σ) (x0) 5 (cll (m_X5_setOctet b0 fu (x0) (x1) (x8) (x4) (σ)) (fun v8 ρ9 => ltb ((x8) + Int32.ofInt 1) (fun y11 => rc29 (x0) (x1) (x4) (x5) (x7) (y11) (ρ9))))
def L_X5_setSpan_29 (b0 fu : Nat)  : Nat → Nat → Int32 → Int32 → Int64 → Int32 → Int32 → tM → Option ((Unit) × tM)
  | 0, _, _, _, _, _, _, _ => none
  | n + 1, x0, x1, x4, x5, x7, x8, σ => ltb (L_X5_setSpan_29 b0 fu  n) (fun rc29 => if (x7) ≤ (x8) then some ((), σ) else if ((x8) &&& (7)) = (0) then if ((x7) - (x8)) < (8) then J_X5_setSpan_88 b0 fu rc29  (x0) (x1) (x4) (x5) (x7) (x8) (σ) else if (x1) ≤ (0) then J_X5_setSpan_88 b0 fu rc29  (x0) (x1) (x4) (x5) (x7) (x8) (σ) else ckO b0 (σ) (x0) 5 (if (tI (σ) (x0) 7) ≤ (x1) then J_X5_setSpan_88 b0 fu rc29  (x0) (x1) (x4) (x5) (x7) (x8) (σ) else osm (tA (σ) (x0) 0) (fun a17 => ckR b0 (σ) (a17) 3 (fun n21 => ckI (((x1) * (32)) + ((x8) >>> (((3 : Int32)) &&& 31))) (n21) (ltb ((x8) + Int32.ofInt 8) (fun y23 => rc29 (x0) (x1) (x4) (x5) (x7) (y23) (sL (σ) (a17) ((((x1) * (32)) + ((x8) >>> (((3 : Int32)) &&& 31))).toNatClampNeg) (x5))))))) else J_X5_setSpan_88 b0 fu rc29  (x0) (x1) (x4) (x5) (x7) (x8) (σ))
def m_X5_setSpan (b0 fu : Nat) (a0 : Nat) (p0 : Int32) (p1 : Int32) (p2 : Int32) (p3 : Int32) (σ : tM) : Option ((Unit) × tM) := grw σ (ltb (((((p3) &&& (255)).toInt64) * (72340172838076673) : Int64)) (fun y1 => ltb (((if ((256 : Int32)) < (p2) then (256) else (p2) : Int32) : Int32)) (fun y2 => ltb (((if (p1) < ((0 : Int32)) then (0) else (p1) : Int32) : Int32)) (fun y3 => L_X5_setSpan_29 b0 fu  (fu) (a0) (p0) (p3) (y1) (y2) (y3) (σ)))))
set_option maxRecDepth 100000 in
set_option maxHeartbeats 1000000 in
theorem j_X5_setSpan_88 {p : Program} {l : Launch} {e : Env} {s : State} {m : MethodId} {args : Array Value} {below : List Frame} {meth : Method} {c : Code} {D : va_G} {aC : Nat → ClassId} {b0 fu : Nat} {σ0 τ : tM} {v : Unit} {rc29 : Nat → Int32 → Int32 → Int64 → Int32 → Int32 → tM → Option ((Unit) × tM)} (C : tCx p l s m args meth c yX5_setSpan.cls cX5_setSpan 9 none D aC b0 σ0) (htab : ∀ x ∈ c.exceptionTable.toList, False) (hin : meth.name = yX5_setSpan.name) (hrc29 : ∀ (x0 : Nat) (x1 : Int32) (x4 : Int32) (x5 : Int64) (x7 : Int32) (x8 : Int32) (ρ : tM), rc29 x0 x1 x4 x5 x7 x8 ρ = some (v, τ) → tX p l e s m args below meth c 9 1 25 D aC b0 σ0 (.inl none) τ 29 [(0, .ref (x0)), (1, .int (x1)), (4, .int (x4)), (5, .long (x5)), (7, .int (x7)), (8, .int (x8))] [] ρ) {x0 : Nat} {x1 : Int32} {x4 : Int32} {x5 : Int64} {x7 : Int32} {x8 : Int32} {σ : tM} (hm : J_X5_setSpan_88 b0 fu rc29 x0 x1 x4 x5 x7 x8 σ = some (v, τ)) : tX p l e s m args below meth c 9 1 25 D aC b0 σ0 (.inl none) τ 88 [(0, .ref (x0)), (1, .int (x1)), (4, .int (x4)), (5, .long (x5)), (7, .int (x7)), (8, .int (x8))] [] σ := by
  unfold J_X5_setSpan_88 at hm
  refine zx_aload_n C dX5_setSpan_88 0 rfl ?_
  refine zx_iload_n C dX5_setSpan_89 1 rfl ?_
  refine zx_iload C dX5_setSpan_90 5 rfl ?_
  refine zx_iload C dX5_setSpan_92 2 rfl ?_
  obtain ⟨k6, i7, hm⟩ := ckO_e hm
  obtain ⟨v8, ρ9, h10, hm⟩ := cll_e hm
  refine zx_callV (σ := σ) C [.int (x1), .int (x8), .int (x4)] tC_5 k6 i7 Y_X5_setOctet W_5_79 W_4_181 W_4_182 (c_X5_setOctet h10) (by decide) (by decide) rfl (Nat.le_of_ble_eq_true rfl) dX5_setSpan_94 rfl ?_
  obtain ⟨y11, hy11⟩ : ∃ z : Int32, z = (x8) + Int32.ofInt 1 := ⟨_, rfl⟩
  replace hm := ltb_e hm hy11
  refine zx_iinc C [(8, .int (y11)), (0, .ref (x0)), (1, .int (x1)), (4, .int (x4)), (5, .long (x5)), (7, .int (x7))] dX5_setSpan_97 5 rfl hy11.symm (by decide) rfl ?_
  refine zx_goto C 29 dX5_setSpan_100 (by decide) ?_
  exact zx_lv [1, 2, 3, 4, 5, 0] [(0, .ref (x0)), (1, .int (x1)), (4, .int (x4)), (5, .long (x5)), (7, .int (x7)), (8, .int (y11))] rfl (hrc29 _ _ _ _ _ _ _ hm)
set_option maxRecDepth 100000 in
set_option maxHeartbeats 1000000 in
theorem l_X5_setSpan_29 {p : Program} {l : Launch} {e : Env} {s : State} {m : MethodId} {args : Array Value} {below : List Frame} {meth : Method} {c : Code} {D : va_G} {aC : Nat → ClassId} {b0 fu : Nat} {σ0 τ : tM} {v : Unit}  (C : tCx p l s m args meth c yX5_setSpan.cls cX5_setSpan 9 none D aC b0 σ0) (htab : ∀ x ∈ c.exceptionTable.toList, False) (hin : meth.name = yX5_setSpan.name)  : ∀ (n : Nat) (x0 : Nat) (x1 : Int32) (x4 : Int32) (x5 : Int64) (x7 : Int32) (x8 : Int32) (σ : tM), L_X5_setSpan_29 b0 fu  n x0 x1 x4 x5 x7 x8 σ = some (v, τ) → tX p l e s m args below meth c 9 1 25 D aC b0 σ0 (.inl none) τ 29 [(0, .ref (x0)), (1, .int (x1)), (4, .int (x4)), (5, .long (x5)), (7, .int (x7)), (8, .int (x8))] [] σ := by
  intro n
  induction n with
  | zero => intro x0 x1 x4 x5 x7 x8 σ hm; unfold L_X5_setSpan_29 at hm; cases hm
  | succ n ih =>
    intro x0 x1 x4 x5 x7 x8 σ hm
    unfold L_X5_setSpan_29 at hm
    obtain ⟨rc29, hrc⟩ : ∃ z, z = L_X5_setSpan_29 b0 fu  n := ⟨_, rfl⟩
    replace hm := ltb_e hm hrc
    rw [← hrc] at ih
    have hrc29 := ih
    clear ih hrc
    refine zx_iload C dX5_setSpan_29 5 rfl ?_
    refine zx_iload C dX5_setSpan_31 4 rfl ?_
    refine zx_icmp_ge C 103 dX5_setSpan_33 (by decide) (fun c4 => ?_) (fun c4 => ?_)
    · replace hm := ip_e hm c4
      obtain ⟨rfl, rfl⟩ := ret_e hm
      exact zx_vret C rfl rfl rfl dX5_setSpan_103
    · replace hm := in_e hm c4
      refine zx_iload C dX5_setSpan_36 5 rfl ?_
      refine zx_bipush (v := 7) C dX5_setSpan_38 (by decide) ?_
      refine zx_iand C dX5_setSpan_40 ?_
      refine zx_if_ne C 88 dX5_setSpan_41 (by decide) (fun c5 => ?_) (fun c5 => ?_)
      · replace hm := in_e hm c5
        exact zx_lv [0, 1, 2, 3, 4, 5] [(0, .ref (x0)), (1, .int (x1)), (4, .int (x4)), (5, .long (x5)), (7, .int (x7)), (8, .int (x8))] rfl (j_X5_setSpan_88 C htab hin hrc29   hm)
      · replace hm := ip_e hm c5
        refine zx_iload C dX5_setSpan_44 4 rfl ?_
        refine zx_iload C dX5_setSpan_46 5 rfl ?_
        refine zx_isub C dX5_setSpan_48 ?_
        refine zx_bipush (v := 8) C dX5_setSpan_49 (by decide) ?_
        refine zx_icmp_lt C 88 dX5_setSpan_51 (by decide) (fun c12 => ?_) (fun c12 => ?_)
        · replace hm := ip_e hm c12
          exact zx_lv [0, 1, 2, 3, 4, 5] [(0, .ref (x0)), (1, .int (x1)), (4, .int (x4)), (5, .long (x5)), (7, .int (x7)), (8, .int (x8))] rfl (j_X5_setSpan_88 C htab hin hrc29   hm)
        · replace hm := in_e hm c12
          refine zx_iload_n C dX5_setSpan_54 1 rfl ?_
          refine zx_if_le C 88 dX5_setSpan_55 (by decide) (fun c13 => ?_) (fun c13 => ?_)
          · replace hm := ip_e hm c13
            exact zx_lv [0, 1, 2, 3, 4, 5] [(0, .ref (x0)), (1, .int (x1)), (4, .int (x4)), (5, .long (x5)), (7, .int (x7)), (8, .int (x8))] rfl (j_X5_setSpan_88 C htab hin hrc29   hm)
          · replace hm := in_e hm c13
            refine zx_iload_n C dX5_setSpan_58 1 rfl ?_
            refine zx_aload_n C dX5_setSpan_59 0 rfl ?_
            obtain ⟨k14, i15, hm⟩ := ckO_e hm
            refine zx_get (j := 7) C tC_5 k14 i15 ⟨by decide, Or.inl W_1_104⟩ dX5_setSpan_60 (.int (tI (σ) (x0) 7)) rfl ?_
            refine zx_icmp_ge C 88 dX5_setSpan_63 (by decide) (fun c16 => ?_) (fun c16 => ?_)
            · replace hm := ip_e hm c16
              exact zx_lv [0, 1, 2, 3, 4, 5] [(0, .ref (x0)), (1, .int (x1)), (4, .int (x4)), (5, .long (x5)), (7, .int (x7)), (8, .int (x8))] rfl (j_X5_setSpan_88 C htab hin hrc29   hm)
            · replace hm := in_e hm c16
              refine zx_aload_n C dX5_setSpan_66 0 rfl ?_
              obtain ⟨a17, h18, hm⟩ := osm_e hm
              refine zx_get (j := 0) C tC_5 k14 i15 ⟨by decide, Or.inl W_1_94⟩ dX5_setSpan_67 (.ref a17) (rf_s h18) ?_
              refine zx_iload_n C dX5_setSpan_70 1 rfl ?_
              refine zx_bipush (v := 32) C dX5_setSpan_71 (by decide) ?_
              refine zx_imul C dX5_setSpan_73 ?_
              refine zx_iload C dX5_setSpan_74 5 rfl ?_
              refine zx_iconst (v := 3) C dX5_setSpan_76 (by decide) ?_
              refine zx_ishr C dX5_setSpan_77 ?_
              refine zx_iadd C dX5_setSpan_78 ?_
              refine zx_lload C dX5_setSpan_79 3 rfl ?_
              obtain ⟨n21, k19, i20, hm⟩ := ckR_e hm
              obtain ⟨h22, hm⟩ := ckI_e hm
              refine zx_last C k19 i20 h22 dX5_setSpan_81 ?_
              obtain ⟨y23, hy23⟩ : ∃ z : Int32, z = (x8) + Int32.ofInt 8 := ⟨_, rfl⟩
              replace hm := ltb_e hm hy23
              refine zx_iinc C [(8, .int (y23)), (0, .ref (x0)), (1, .int (x1)), (4, .int (x4)), (5, .long (x5)), (7, .int (x7))] dX5_setSpan_82 5 rfl hy23.symm (by decide) rfl ?_
              refine zx_goto C 29 dX5_setSpan_85 (by decide) ?_
              exact zx_lv [1, 2, 3, 4, 5, 0] [(0, .ref (x0)), (1, .int (x1)), (4, .int (x4)), (5, .long (x5)), (7, .int (x7)), (8, .int (y23))] rfl (hrc29 _ _ _ _ _ _ _ hm)
set_option maxRecDepth 100000 in
set_option maxHeartbeats 1000000 in
theorem c_X5_setSpan {l : Launch} {D : va_G} {aC : Nat → ClassId} {b0 fu : Nat} {a0 : Nat} {p0 : Int32} {p1 : Int32} {p2 : Int32} {p3 : Int32} {σ τ : tM} {v : Unit} (hm : m_X5_setSpan b0 fu a0 p0 p1 p2 p3 σ = some (v, τ)) : tMt l D aC b0 yX5_setSpan (Cond.code yX5_setSpan cX5_setSpan 9 none) 1 25 [.ref (a0), .int (p0), .int (p1), .int (p2), .int (p3)] σ (.inl none) τ := by
  unfold m_X5_setSpan at hm
  obtain ⟨hg, hm⟩ := grw_e hm
  refine tMt_of (n := 0) rfl (Nat.le_of_ble_eq_true rfl) hg ?_
  intro p e s m below meth c C htab hin
  refine zx_lv [0, 1, 2, 3, 4] [(0, .ref (a0)), (1, .int (p0)), (2, .int (p1)), (3, .int (p2)), (4, .int (p3))] rfl ?_
  refine zx_iload C dX5_setSpan_0 4 rfl ?_
  refine zx_sipush (v := 255) C dX5_setSpan_2 (by decide) ?_
  refine zx_iand C dX5_setSpan_5 ?_
  refine zx_i2l C dX5_setSpan_6 ?_
  refine zx_ldc2 (v := 72340172838076673) C W_5_78 dX5_setSpan_7 ?_
  refine zx_lmul C dX5_setSpan_10 ?_
  refine zx_topl (fun y1 hy1 => ?_)
  replace hm := ltb_e hm hy1
  refine zx_lstore C [(5, .long (y1)), (0, .ref (a0)), (1, .int (p0)), (2, .int (p1)), (3, .int (p2)), (4, .int (p3))] dX5_setSpan_11 (by decide) rfl ?_
  refine zx_iload_n C dX5_setSpan_13 4 rfl ?_
  refine zx_sipush (v := 256) C dX5_setSpan_14 (by decide) ?_
  refine zx_min C W_2_127 W_2_106 W_1_10 W_2_107 (by decide) (by decide) (Nat.le_of_ble_eq_true rfl) dX5_setSpan_17 ?_
  refine zx_topi (fun y2 hy2 => ?_)
  replace hm := ltb_e hm hy2
  refine zx_istore C [(7, .int (y2)), (5, .long (y1)), (0, .ref (a0)), (1, .int (p0)), (2, .int (p1)), (3, .int (p2)), (4, .int (p3))] dX5_setSpan_20 (by decide) rfl ?_
  refine zx_iload_n C dX5_setSpan_22 4 rfl ?_
  refine zx_iconst (v := 0) C dX5_setSpan_23 (by decide) ?_
  refine zx_max C W_2_128 W_2_109 W_1_10 W_2_110 (by decide) (by decide) (Nat.le_of_ble_eq_true rfl) dX5_setSpan_24 ?_
  refine zx_topi (fun y3 hy3 => ?_)
  replace hm := ltb_e hm hy3
  refine zx_istore C [(8, .int (y3)), (7, .int (y2)), (5, .long (y1)), (0, .ref (a0)), (1, .int (p0)), (2, .int (p1)), (3, .int (p2)), (4, .int (p3))] dX5_setSpan_27 (by decide) rfl ?_
  exact zx_lv [3, 4, 7, 2, 1, 0] [(0, .ref (a0)), (1, .int (p0)), (4, .int (p3)), (5, .long (y1)), (7, .int (y2)), (8, .int (y3))] rfl (l_X5_setSpan_29 C htab hin  _ _ _ _ _ _ _ _ hm)
abbrev cX5_isZeroFrom : ByteArray := prog_7_method_17_code
def yX5_isZeroFrom : MethodName := ⟨"SyncTree$Space", "isZeroFrom", "(II)Z"⟩
theorem Y_X5_isZeroFrom : tY yX5_isZeroFrom cX5_isZeroFrom 4 (some .boolean) 2 := ⟨W_5_40, W_1_3, ⟨by decide +kernel, by decide +kernel⟩, by decide +kernel⟩
theorem dX5_isZeroFrom_0 : decode cX5_isZeroFrom 0 = .ok (.iload_n 2, 1) := by decide +kernel
theorem dX5_isZeroFrom_1 : decode cX5_isZeroFrom 1 = .ok (.iconst 0, 1) := by decide +kernel
theorem dX5_isZeroFrom_2 : decode cX5_isZeroFrom 2 = .ok (.invokestatic 45, 3) := by decide +kernel
theorem dX5_isZeroFrom_5 : decode cX5_isZeroFrom 5 = .ok (.istore_n 3, 1) := by decide +kernel
theorem dX5_isZeroFrom_6 : decode cX5_isZeroFrom 6 = .ok (.iload_n 3, 1) := by decide +kernel
theorem dX5_isZeroFrom_7 : decode cX5_isZeroFrom 7 = .ok (.sipush 256, 3) := by decide +kernel
theorem dX5_isZeroFrom_10 : decode cX5_isZeroFrom 10 = .ok (.if_icmp .ge 48, 3) := by decide +kernel
theorem dX5_isZeroFrom_13 : decode cX5_isZeroFrom 13 = .ok (.iload_n 3, 1) := by decide +kernel
theorem dX5_isZeroFrom_14 : decode cX5_isZeroFrom 14 = .ok (.bipush 7, 2) := by decide +kernel
theorem dX5_isZeroFrom_16 : decode cX5_isZeroFrom 16 = .ok (.iand, 1) := by decide +kernel
theorem dX5_isZeroFrom_17 : decode cX5_isZeroFrom 17 = .ok (.ifCond .ne 24, 3) := by decide +kernel
theorem dX5_isZeroFrom_20 : decode cX5_isZeroFrom 20 = .ok (.aload_n 0, 1) := by decide +kernel
theorem dX5_isZeroFrom_21 : decode cX5_isZeroFrom 21 = .ok (.iload_n 1, 1) := by decide +kernel
theorem dX5_isZeroFrom_22 : decode cX5_isZeroFrom 22 = .ok (.iload_n 3, 1) := by decide +kernel
theorem dX5_isZeroFrom_23 : decode cX5_isZeroFrom 23 = .ok (.iconst 3, 1) := by decide +kernel
theorem dX5_isZeroFrom_24 : decode cX5_isZeroFrom 24 = .ok (.ishr, 1) := by decide +kernel
theorem dX5_isZeroFrom_25 : decode cX5_isZeroFrom 25 = .ok (.invokevirtual 93, 3) := by decide +kernel
theorem dX5_isZeroFrom_28 : decode cX5_isZeroFrom 28 = .ok (.lconst 0, 1) := by decide +kernel
theorem dX5_isZeroFrom_29 : decode cX5_isZeroFrom 29 = .ok (.lcmp, 1) := by decide +kernel
theorem dX5_isZeroFrom_30 : decode cX5_isZeroFrom 30 = .ok (.ifCond .eq 5, 3) := by decide +kernel
theorem dX5_isZeroFrom_33 : decode cX5_isZeroFrom 33 = .ok (.iconst 0, 1) := by decide +kernel
theorem dX5_isZeroFrom_34 : decode cX5_isZeroFrom 34 = .ok (.ireturn, 1) := by decide +kernel
theorem dX5_isZeroFrom_35 : decode cX5_isZeroFrom 35 = .ok (.iinc 3 8, 3) := by decide +kernel
theorem dX5_isZeroFrom_38 : decode cX5_isZeroFrom 38 = .ok (.goto (-32), 3) := by decide +kernel
theorem dX5_isZeroFrom_41 : decode cX5_isZeroFrom 41 = .ok (.aload_n 0, 1) := by decide +kernel
theorem dX5_isZeroFrom_42 : decode cX5_isZeroFrom 42 = .ok (.iload_n 1, 1) := by decide +kernel
theorem dX5_isZeroFrom_43 : decode cX5_isZeroFrom 43 = .ok (.iload_n 3, 1) := by decide +kernel
theorem dX5_isZeroFrom_44 : decode cX5_isZeroFrom 44 = .ok (.invokevirtual 110, 3) := by decide +kernel
theorem dX5_isZeroFrom_47 : decode cX5_isZeroFrom 47 = .ok (.ifCond .eq 5, 3) := by decide +kernel
theorem dX5_isZeroFrom_50 : decode cX5_isZeroFrom 50 = .ok (.iconst 0, 1) := by decide +kernel
theorem dX5_isZeroFrom_51 : decode cX5_isZeroFrom 51 = .ok (.ireturn, 1) := by decide +kernel
theorem dX5_isZeroFrom_52 : decode cX5_isZeroFrom 52 = .ok (.iinc 3 1, 3) := by decide +kernel
theorem dX5_isZeroFrom_55 : decode cX5_isZeroFrom 55 = .ok (.goto (-49), 3) := by decide +kernel
theorem dX5_isZeroFrom_58 : decode cX5_isZeroFrom 58 = .ok (.iconst 1, 1) := by decide +kernel
theorem dX5_isZeroFrom_59 : decode cX5_isZeroFrom 59 = .ok (.ireturn, 1) := by decide +kernel
def L_X5_isZeroFrom_6 (b0 fu : Nat)  : Nat → Nat → Int32 → Int32 → tM → Option ((Int32) × tM)
  | 0, _, _, _, _ => none
  | n + 1, x0, x1, x3, σ => ltb (L_X5_isZeroFrom_6 b0 fu  n) (fun rc6 => if (256) ≤ (x3) then some (1, σ) else if ((x3) &&& (7)) = (0) then ckO b0 (σ) (x0) 5 (cll (m_X5_word b0 fu (x0) (x1) ((x3) >>> (((3 : Int32)) &&& 31)) (σ)) (fun v13 ρ14 => if (lg_cmp (v13) (0)) = (0) then ltb ((x3) + Int32.ofInt 8) (fun y17 => rc6 (x0) (x1) (y17) (ρ14)) else some (0, ρ14))) else ckO b0 (σ) (x0) 5 (cll (m_X5_octet b0 fu (x0) (x1) (x3) (σ)) (fun v6 ρ7 => if (v6) = (0) then ltb ((x3) + Int32.ofInt 1) (fun y10 => rc6 (x0) (x1) (y10) (ρ7)) else some (0, ρ7))))
def m_X5_isZeroFrom (b0 fu : Nat) (a0 : Nat) (p0 : Int32) (p1 : Int32) (σ : tM) : Option ((Int32) × tM) := grw σ (ltb (((if (p1) < ((0 : Int32)) then (0) else (p1) : Int32) : Int32)) (fun y1 => L_X5_isZeroFrom_6 b0 fu  (fu) (a0) (p0) (y1) (σ)))
set_option maxRecDepth 100000 in
set_option maxHeartbeats 1000000 in
theorem l_X5_isZeroFrom_6 {p : Program} {l : Launch} {e : Env} {s : State} {m : MethodId} {args : Array Value} {below : List Frame} {meth : Method} {c : Code} {D : va_G} {aC : Nat → ClassId} {b0 fu : Nat} {σ0 τ : tM} {v : Int32}  (C : tCx p l s m args meth c yX5_isZeroFrom.cls cX5_isZeroFrom 4 (some .boolean) D aC b0 σ0) (htab : ∀ x ∈ c.exceptionTable.toList, False) (hin : meth.name = yX5_isZeroFrom.name)  : ∀ (n : Nat) (x0 : Nat) (x1 : Int32) (x3 : Int32) (σ : tM), L_X5_isZeroFrom_6 b0 fu  n x0 x1 x3 σ = some (v, τ) → tX p l e s m args below meth c 4 1 22 D aC b0 σ0 (.inl (some (.int v))) τ 6 [(0, .ref (x0)), (1, .int (x1)), (3, .int (x3))] [] σ := by
  intro n
  induction n with
  | zero => intro x0 x1 x3 σ hm; unfold L_X5_isZeroFrom_6 at hm; cases hm
  | succ n ih =>
    intro x0 x1 x3 σ hm
    unfold L_X5_isZeroFrom_6 at hm
    obtain ⟨rc6, hrc⟩ : ∃ z, z = L_X5_isZeroFrom_6 b0 fu  n := ⟨_, rfl⟩
    replace hm := ltb_e hm hrc
    rw [← hrc] at ih
    have hrc6 := ih
    clear ih hrc
    refine zx_iload_n C dX5_isZeroFrom_6 2 rfl ?_
    refine zx_sipush (v := 256) C dX5_isZeroFrom_7 (by decide) ?_
    refine zx_icmp_ge C 58 dX5_isZeroFrom_10 (by decide) (fun c2 => ?_) (fun c2 => ?_)
    · replace hm := ip_e hm c2
      refine zx_iconst (v := 1) C dX5_isZeroFrom_58 (by decide) ?_
      obtain ⟨rfl, rfl⟩ := ret_e hm
      exact zx_zret C rfl (by decide) rfl rfl dX5_isZeroFrom_59
    · replace hm := in_e hm c2
      refine zx_iload_n C dX5_isZeroFrom_13 2 rfl ?_
      refine zx_bipush (v := 7) C dX5_isZeroFrom_14 (by decide) ?_
      refine zx_iand C dX5_isZeroFrom_16 ?_
      refine zx_if_ne C 41 dX5_isZeroFrom_17 (by decide) (fun c3 => ?_) (fun c3 => ?_)
      · replace hm := in_e hm c3
        refine zx_aload_n C dX5_isZeroFrom_41 0 rfl ?_
        refine zx_iload_n C dX5_isZeroFrom_42 1 rfl ?_
        refine zx_iload_n C dX5_isZeroFrom_43 2 rfl ?_
        obtain ⟨k4, i5, hm⟩ := ckO_e hm
        obtain ⟨v6, ρ7, h8, hm⟩ := cll_e hm
        refine zx_callV (σ := σ) C [.int (x1), .int (x3)] tC_5 k4 i5 Y_X5_octet W_5_41 W_4_121 W_4_122 (c_X5_octet h8) (by decide) (by decide) rfl (Nat.le_of_ble_eq_true rfl) dX5_isZeroFrom_44 rfl ?_
        refine zx_if_eq C 52 dX5_isZeroFrom_47 (by decide) (fun c9 => ?_) (fun c9 => ?_)
        · replace hm := ip_e hm c9
          obtain ⟨y10, hy10⟩ : ∃ z : Int32, z = (x3) + Int32.ofInt 1 := ⟨_, rfl⟩
          replace hm := ltb_e hm hy10
          refine zx_iinc C [(3, .int (y10)), (0, .ref (x0)), (1, .int (x1))] dX5_isZeroFrom_52 2 rfl hy10.symm (by decide) rfl ?_
          refine zx_goto C 6 dX5_isZeroFrom_55 (by decide) ?_
          exact zx_lv [1, 2, 0] [(0, .ref (x0)), (1, .int (x1)), (3, .int (y10))] rfl (hrc6 _ _ _ _ hm)
        · replace hm := in_e hm c9
          refine zx_iconst (v := 0) C dX5_isZeroFrom_50 (by decide) ?_
          obtain ⟨rfl, rfl⟩ := ret_e hm
          exact zx_zret C rfl (by decide) rfl rfl dX5_isZeroFrom_51
      · replace hm := ip_e hm c3
        refine zx_aload_n C dX5_isZeroFrom_20 0 rfl ?_
        refine zx_iload_n C dX5_isZeroFrom_21 1 rfl ?_
        refine zx_iload_n C dX5_isZeroFrom_22 2 rfl ?_
        refine zx_iconst (v := 3) C dX5_isZeroFrom_23 (by decide) ?_
        refine zx_ishr C dX5_isZeroFrom_24 ?_
        obtain ⟨k11, i12, hm⟩ := ckO_e hm
        obtain ⟨v13, ρ14, h15, hm⟩ := cll_e hm
        refine zx_callV (σ := σ) C [.int (x1), .int ((x3) >>> (((3 : Int32)) &&& 31))] tC_5 k11 i12 Y_X5_word W_2_140 W_2_141 W_2_142 (c_X5_word h15) (by decide) (by decide) rfl (Nat.le_of_ble_eq_true rfl) dX5_isZeroFrom_25 rfl ?_
        refine zx_lconst (v := 0) C dX5_isZeroFrom_28 (by decide) ?_
        refine zx_lcmp C dX5_isZeroFrom_29 ?_
        refine zx_if_eq C 35 dX5_isZeroFrom_30 (by decide) (fun c16 => ?_) (fun c16 => ?_)
        · replace hm := ip_e hm c16
          obtain ⟨y17, hy17⟩ : ∃ z : Int32, z = (x3) + Int32.ofInt 8 := ⟨_, rfl⟩
          replace hm := ltb_e hm hy17
          refine zx_iinc C [(3, .int (y17)), (0, .ref (x0)), (1, .int (x1))] dX5_isZeroFrom_35 2 rfl hy17.symm (by decide) rfl ?_
          refine zx_goto C 6 dX5_isZeroFrom_38 (by decide) ?_
          exact zx_lv [1, 2, 0] [(0, .ref (x0)), (1, .int (x1)), (3, .int (y17))] rfl (hrc6 _ _ _ _ hm)
        · replace hm := in_e hm c16
          refine zx_iconst (v := 0) C dX5_isZeroFrom_33 (by decide) ?_
          obtain ⟨rfl, rfl⟩ := ret_e hm
          exact zx_zret C rfl (by decide) rfl rfl dX5_isZeroFrom_34
set_option maxRecDepth 100000 in
set_option maxHeartbeats 1000000 in
theorem c_X5_isZeroFrom {l : Launch} {D : va_G} {aC : Nat → ClassId} {b0 fu : Nat} {a0 : Nat} {p0 : Int32} {p1 : Int32} {σ τ : tM} {v : Int32} (hm : m_X5_isZeroFrom b0 fu a0 p0 p1 σ = some (v, τ)) : tMt l D aC b0 yX5_isZeroFrom (Cond.code yX5_isZeroFrom cX5_isZeroFrom 4 (some .boolean)) 1 22 [.ref (a0), .int (p0), .int (p1)] σ (.inl (some (.int v))) τ := by
  unfold m_X5_isZeroFrom at hm
  obtain ⟨hg, hm⟩ := grw_e hm
  refine tMt_of (n := 0) rfl (Nat.le_of_ble_eq_true rfl) hg ?_
  intro p e s m below meth c C htab hin
  refine zx_lv [0, 1, 2] [(0, .ref (a0)), (1, .int (p0)), (2, .int (p1))] rfl ?_
  refine zx_iload_n C dX5_isZeroFrom_0 2 rfl ?_
  refine zx_iconst (v := 0) C dX5_isZeroFrom_1 (by decide) ?_
  refine zx_max C W_2_128 W_2_109 W_1_10 W_2_110 (by decide) (by decide) (Nat.le_of_ble_eq_true rfl) dX5_isZeroFrom_2 ?_
  refine zx_topi (fun y1 hy1 => ?_)
  replace hm := ltb_e hm hy1
  refine zx_istore_n C [(3, .int (y1)), (0, .ref (a0)), (1, .int (p0)), (2, .int (p1))] dX5_isZeroFrom_5 rfl (by decide) rfl ?_
  exact zx_lv [1, 2, 0] [(0, .ref (a0)), (1, .int (p0)), (3, .int (y1))] rfl (l_X5_isZeroFrom_6 C htab hin  _ _ _ _ _ hm)
abbrev cX5_load : ByteArray := prog_7_method_18_code
def yX5_load : MethodName := ⟨"SyncTree$Space", "load", "(ILSyncTree$Row;)V"⟩
theorem Y_X5_load : tY yX5_load cX5_load 4 none 2 := ⟨W_2_132, W_1_3, ⟨by decide +kernel, by decide +kernel⟩, by decide +kernel⟩
theorem dX5_load_0 : decode cX5_load 0 = .ok (.iload_n 1, 1) := by decide +kernel
theorem dX5_load_1 : decode cX5_load 1 = .ok (.ifCond .le 10, 3) := by decide +kernel
theorem dX5_load_4 : decode cX5_load 4 = .ok (.iload_n 1, 1) := by decide +kernel
theorem dX5_load_5 : decode cX5_load 5 = .ok (.sipush 2034, 3) := by decide +kernel
theorem dX5_load_8 : decode cX5_load 8 = .ok (.if_icmp .lt 4, 3) := by decide +kernel
theorem dX5_load_11 : decode cX5_load 11 = .ok (.return_, 1) := by decide +kernel
theorem dX5_load_12 : decode cX5_load 12 = .ok (.aload_n 2, 1) := by decide +kernel
theorem dX5_load_13 : decode cX5_load 13 = .ok (.ifnull 22, 3) := by decide +kernel
theorem dX5_load_16 : decode cX5_load 16 = .ok (.aload_n 2, 1) := by decide +kernel
theorem dX5_load_17 : decode cX5_load 17 = .ok (.getfield 113, 3) := by decide +kernel
theorem dX5_load_20 : decode cX5_load 20 = .ok (.iconst 0, 1) := by decide +kernel
theorem dX5_load_21 : decode cX5_load 21 = .ok (.aload_n 0, 1) := by decide +kernel
theorem dX5_load_22 : decode cX5_load 22 = .ok (.getfield 10, 3) := by decide +kernel
theorem dX5_load_25 : decode cX5_load 25 = .ok (.iload_n 1, 1) := by decide +kernel
theorem dX5_load_26 : decode cX5_load 26 = .ok (.bipush 32, 2) := by decide +kernel
theorem dX5_load_28 : decode cX5_load 28 = .ok (.imul, 1) := by decide +kernel
theorem dX5_load_29 : decode cX5_load 29 = .ok (.bipush 32, 2) := by decide +kernel
theorem dX5_load_31 : decode cX5_load 31 = .ok (.invokestatic 116, 3) := by decide +kernel
theorem dX5_load_34 : decode cX5_load 34 = .ok (.return_, 1) := by decide +kernel
theorem dX5_load_35 : decode cX5_load 35 = .ok (.iconst 0, 1) := by decide +kernel
theorem dX5_load_36 : decode cX5_load 36 = .ok (.istore_n 3, 1) := by decide +kernel
theorem dX5_load_37 : decode cX5_load 37 = .ok (.iload_n 3, 1) := by decide +kernel
theorem dX5_load_38 : decode cX5_load 38 = .ok (.bipush 32, 2) := by decide +kernel
theorem dX5_load_40 : decode cX5_load 40 = .ok (.if_icmp .ge 21, 3) := by decide +kernel
theorem dX5_load_43 : decode cX5_load 43 = .ok (.aload_n 0, 1) := by decide +kernel
theorem dX5_load_44 : decode cX5_load 44 = .ok (.getfield 10, 3) := by decide +kernel
theorem dX5_load_47 : decode cX5_load 47 = .ok (.iload_n 1, 1) := by decide +kernel
theorem dX5_load_48 : decode cX5_load 48 = .ok (.bipush 32, 2) := by decide +kernel
theorem dX5_load_50 : decode cX5_load 50 = .ok (.imul, 1) := by decide +kernel
theorem dX5_load_51 : decode cX5_load 51 = .ok (.iload_n 3, 1) := by decide +kernel
theorem dX5_load_52 : decode cX5_load 52 = .ok (.iadd, 1) := by decide +kernel
theorem dX5_load_53 : decode cX5_load 53 = .ok (.lconst 0, 1) := by decide +kernel
theorem dX5_load_54 : decode cX5_load 54 = .ok (.lastore, 1) := by decide +kernel
theorem dX5_load_55 : decode cX5_load 55 = .ok (.iinc 3 1, 3) := by decide +kernel
theorem dX5_load_58 : decode cX5_load 58 = .ok (.goto (-21), 3) := by decide +kernel
theorem dX5_load_61 : decode cX5_load 61 = .ok (.return_, 1) := by decide +kernel
def J_X5_load_11 (b0 fu : Nat)   (σ : tM) : Option ((Unit) × tM) := some ((), σ)
def L_X5_load_37 (b0 fu : Nat)  : Nat → Nat → Int32 → Int32 → tM → Option ((Unit) × tM)
  | 0, _, _, _, _ => none
  | n + 1, x0, x1, x3, σ => ltb (L_X5_load_37 b0 fu  n) (fun rc37 => if (32) ≤ (x3) then some ((), σ) else ckO b0 (σ) (x0) 5 (osm (tA (σ) (x0) 0) (fun a24 => ckR b0 (σ) (a24) 3 (fun n28 => ckI (((x1) * (32)) + (x3)) (n28) (ltb ((x3) + Int32.ofInt 1) (fun y30 => rc37 (x0) (x1) (y30) (sL (σ) (a24) ((((x1) * (32)) + (x3)).toNatClampNeg) (0))))))))
def m_X5_load (b0 fu : Nat) (a0 : Nat) (p0 : Int32) (p1 : Option Nat) (σ : tM) : Option ((Unit) × tM) := grw σ (if (p0) ≤ (0) then J_X5_load_11 b0 fu    (σ) else if (p0) < (2034) then omt (p1) (fun o3 => ckO b0 (σ) (o3) 4 (osm (tA (σ) (o3) 0) (fun a7 => ckO b0 (σ) (a0) 5 (osm (tA (σ) (a0) 0) (fun a11 => ckR b0 (σ) (a7) 3 (fun n15 => ckR b0 (σ) (a11) 3 (fun n18 => ckC (0) ((p0) * (32)) (32) (n15) (n18) (some ((), sLr (σ) (a11) (va_cpy (tL (σ) (a7)) (tL (σ) (a11)) (((0 : Int32)).toNatClampNeg) (((p0) * (32)).toNatClampNeg) (((32 : Int32)).toNatClampNeg))))))))))) (L_X5_load_37 b0 fu  (fu) (a0) (p0) (0) (σ)) else J_X5_load_11 b0 fu    (σ))
set_option maxRecDepth 100000 in
set_option maxHeartbeats 1000000 in
theorem j_X5_load_11 {p : Program} {l : Launch} {e : Env} {s : State} {m : MethodId} {args : Array Value} {below : List Frame} {meth : Method} {c : Code} {D : va_G} {aC : Nat → ClassId} {b0 fu : Nat} {σ0 τ : tM} {v : Unit}  (C : tCx p l s m args meth c yX5_load.cls cX5_load 4 none D aC b0 σ0) (htab : ∀ x ∈ c.exceptionTable.toList, False) (hin : meth.name = yX5_load.name)   {σ : tM} (hm : J_X5_load_11 b0 fu   σ = some (v, τ)) : tX p l e s m args below meth c 4 1 26 D aC b0 σ0 (.inl none) τ 11 [] [] σ := by
  unfold J_X5_load_11 at hm
  obtain ⟨rfl, rfl⟩ := ret_e hm
  exact zx_vret C rfl rfl rfl dX5_load_11
set_option maxRecDepth 100000 in
set_option maxHeartbeats 1000000 in
theorem l_X5_load_37 {p : Program} {l : Launch} {e : Env} {s : State} {m : MethodId} {args : Array Value} {below : List Frame} {meth : Method} {c : Code} {D : va_G} {aC : Nat → ClassId} {b0 fu : Nat} {σ0 τ : tM} {v : Unit}  (C : tCx p l s m args meth c yX5_load.cls cX5_load 4 none D aC b0 σ0) (htab : ∀ x ∈ c.exceptionTable.toList, False) (hin : meth.name = yX5_load.name)  : ∀ (n : Nat) (x0 : Nat) (x1 : Int32) (x3 : Int32) (σ : tM), L_X5_load_37 b0 fu  n x0 x1 x3 σ = some (v, τ) → tX p l e s m args below meth c 4 1 26 D aC b0 σ0 (.inl none) τ 37 [(0, .ref (x0)), (1, .int (x1)), (3, .int (x3))] [] σ := by
  intro n
  induction n with
  | zero => intro x0 x1 x3 σ hm; unfold L_X5_load_37 at hm; cases hm
  | succ n ih =>
    intro x0 x1 x3 σ hm
    unfold L_X5_load_37 at hm
    obtain ⟨rc37, hrc⟩ : ∃ z, z = L_X5_load_37 b0 fu  n := ⟨_, rfl⟩
    replace hm := ltb_e hm hrc
    rw [← hrc] at ih
    have hrc37 := ih
    clear ih hrc
    refine zx_iload_n C dX5_load_37 2 rfl ?_
    refine zx_bipush (v := 32) C dX5_load_38 (by decide) ?_
    refine zx_icmp_ge C 61 dX5_load_40 (by decide) (fun c21 => ?_) (fun c21 => ?_)
    · replace hm := ip_e hm c21
      obtain ⟨rfl, rfl⟩ := ret_e hm
      exact zx_vret C rfl rfl rfl dX5_load_61
    · replace hm := in_e hm c21
      refine zx_aload_n C dX5_load_43 0 rfl ?_
      obtain ⟨k22, i23, hm⟩ := ckO_e hm
      obtain ⟨a24, h25, hm⟩ := osm_e hm
      refine zx_get (j := 0) C tC_5 k22 i23 ⟨by decide, Or.inl W_1_94⟩ dX5_load_44 (.ref a24) (rf_s h25) ?_
      refine zx_iload_n C dX5_load_47 1 rfl ?_
      refine zx_bipush (v := 32) C dX5_load_48 (by decide) ?_
      refine zx_imul C dX5_load_50 ?_
      refine zx_iload_n C dX5_load_51 2 rfl ?_
      refine zx_iadd C dX5_load_52 ?_
      refine zx_lconst (v := 0) C dX5_load_53 (by decide) ?_
      obtain ⟨n28, k26, i27, hm⟩ := ckR_e hm
      obtain ⟨h29, hm⟩ := ckI_e hm
      refine zx_last C k26 i27 h29 dX5_load_54 ?_
      obtain ⟨y30, hy30⟩ : ∃ z : Int32, z = (x3) + Int32.ofInt 1 := ⟨_, rfl⟩
      replace hm := ltb_e hm hy30
      refine zx_iinc C [(3, .int (y30)), (0, .ref (x0)), (1, .int (x1))] dX5_load_55 2 rfl hy30.symm (by decide) rfl ?_
      refine zx_goto C 37 dX5_load_58 (by decide) ?_
      exact zx_lv [1, 2, 0] [(0, .ref (x0)), (1, .int (x1)), (3, .int (y30))] rfl (hrc37 _ _ _ _ hm)
set_option maxRecDepth 100000 in
set_option maxHeartbeats 1000000 in
theorem c_X5_load {l : Launch} {D : va_G} {aC : Nat → ClassId} {b0 fu : Nat} {a0 : Nat} {p0 : Int32} {p1 : Option Nat} {σ τ : tM} {v : Unit} (hm : m_X5_load b0 fu a0 p0 p1 σ = some (v, τ)) : tMt l D aC b0 yX5_load (Cond.code yX5_load cX5_load 4 none) 1 26 [.ref (a0), .int (p0), va_rf (p1)] σ (.inl none) τ := by
  unfold m_X5_load at hm
  obtain ⟨hg, hm⟩ := grw_e hm
  refine tMt_of (n := 0) rfl (by cases p1 <;> exact Nat.le_of_ble_eq_true rfl) hg ?_
  intro p e s m below meth c C htab hin
  refine zx_lv [0, 1, 2] [(0, .ref (a0)), (1, .int (p0)), (2, va_rf (p1))] (by cases p1 <;> rfl) ?_
  refine zx_iload_n C dX5_load_0 1 rfl ?_
  refine zx_if_le C 11 dX5_load_1 (by decide) (fun c1 => ?_) (fun c1 => ?_)
  · replace hm := ip_e hm c1
    exact zx_lv [] [] rfl (j_X5_load_11 C htab hin    hm)
  · replace hm := in_e hm c1
    refine zx_iload_n C dX5_load_4 1 rfl ?_
    refine zx_sipush (v := 2034) C dX5_load_5 (by decide) ?_
    refine zx_icmp_lt C 12 dX5_load_8 (by decide) (fun c2 => ?_) (fun c2 => ?_)
    · replace hm := ip_e hm c2
      rcases omt_e hm with ⟨o3, h4, hm⟩ | ⟨h4, hm⟩
      · refine zx_lv [0, 1, 2] [(0, .ref (a0)), (1, .int (p0)), (2, .ref (o3))] (by rw [h4]; rfl) ?_
        refine zx_aload_n C dX5_load_12 2 rfl ?_
        refine zx_ifnull C dX5_load_13 ?_
        refine zx_aload_n C dX5_load_16 2 rfl ?_
        obtain ⟨k5, i6, hm⟩ := ckO_e hm
        obtain ⟨a7, h8, hm⟩ := osm_e hm
        refine zx_get (j := 0) C tC_4 k5 i6 ⟨by decide, Or.inr ⟨_, W_2_191⟩⟩ dX5_load_17 (.ref a7) (rf_s h8) ?_
        refine zx_iconst (v := 0) C dX5_load_20 (by decide) ?_
        refine zx_aload_n C dX5_load_21 0 rfl ?_
        obtain ⟨k9, i10, hm⟩ := ckO_e hm
        obtain ⟨a11, h12, hm⟩ := osm_e hm
        refine zx_get (j := 0) C tC_5 k9 i10 ⟨by decide, Or.inl W_1_94⟩ dX5_load_22 (.ref a11) (rf_s h12) ?_
        refine zx_iload_n C dX5_load_25 1 rfl ?_
        refine zx_bipush (v := 32) C dX5_load_26 (by decide) ?_
        refine zx_imul C dX5_load_28 ?_
        refine zx_bipush (v := 32) C dX5_load_29 (by decide) ?_
        obtain ⟨n15, k13, i14, hm⟩ := ckR_e hm
        obtain ⟨n18, k16, i17, hm⟩ := ckR_e hm
        obtain ⟨h19, hm⟩ := ckC_e hm
        refine zx_copyJ (σ := σ) C W_2_133 W_2_135 W_2_134 W_1_11 k13 i14 k16 i17 h19  (by decide) (by decide) (Nat.le_of_ble_eq_true rfl) dX5_load_31 ?_
        obtain ⟨rfl, rfl⟩ := ret_e hm
        exact zx_vret C rfl rfl rfl dX5_load_34
      · refine zx_lv [0, 1, 2] [(0, .ref (a0)), (1, .int (p0)), (2, .null)] (by rw [h4]; rfl) ?_
        refine zx_aload_nN C dX5_load_12 2 rfl ?_
        refine zx_ifnullN C 35 dX5_load_13 (by decide) ?_
        refine zx_iconst (v := 0) C dX5_load_35 (by decide) ?_
        refine zx_istore_n C [(3, .int (0)), (0, .ref (a0)), (1, .int (p0)), (2, .null)] dX5_load_36 rfl (by decide) rfl ?_
        exact zx_lv [1, 2, 0] [(0, .ref (a0)), (1, .int (p0)), (3, .int (0))] rfl (l_X5_load_37 C htab hin  _ _ _ _ _ hm)
    · replace hm := in_e hm c2
      exact zx_lv [] [] rfl (j_X5_load_11 C htab hin    hm)
abbrev cX5_save : ByteArray := prog_7_method_19_code
def yX5_save : MethodName := ⟨"SyncTree$Space", "save", "(ILSyncTree$Row;)V"⟩
theorem Y_X5_save : tY yX5_save cX5_save 3 none 2 := ⟨W_2_201, W_1_3, ⟨by decide +kernel, by decide +kernel⟩, by decide +kernel⟩
theorem dX5_save_0 : decode cX5_save 0 = .ok (.iload_n 1, 1) := by decide +kernel
theorem dX5_save_1 : decode cX5_save 1 = .ok (.ifCond .lt 28, 3) := by decide +kernel
theorem dX5_save_4 : decode cX5_save 4 = .ok (.iload_n 1, 1) := by decide +kernel
theorem dX5_save_5 : decode cX5_save 5 = .ok (.sipush 2034, 3) := by decide +kernel
theorem dX5_save_8 : decode cX5_save 8 = .ok (.if_icmp .ge 21, 3) := by decide +kernel
theorem dX5_save_11 : decode cX5_save 11 = .ok (.aload_n 0, 1) := by decide +kernel
theorem dX5_save_12 : decode cX5_save 12 = .ok (.getfield 10, 3) := by decide +kernel
theorem dX5_save_15 : decode cX5_save 15 = .ok (.iload_n 1, 1) := by decide +kernel
theorem dX5_save_16 : decode cX5_save 16 = .ok (.bipush 32, 2) := by decide +kernel
theorem dX5_save_18 : decode cX5_save 18 = .ok (.imul, 1) := by decide +kernel
theorem dX5_save_19 : decode cX5_save 19 = .ok (.aload_n 2, 1) := by decide +kernel
theorem dX5_save_20 : decode cX5_save 20 = .ok (.getfield 113, 3) := by decide +kernel
theorem dX5_save_23 : decode cX5_save 23 = .ok (.iconst 0, 1) := by decide +kernel
theorem dX5_save_24 : decode cX5_save 24 = .ok (.bipush 32, 2) := by decide +kernel
theorem dX5_save_26 : decode cX5_save 26 = .ok (.invokestatic 116, 3) := by decide +kernel
theorem dX5_save_29 : decode cX5_save 29 = .ok (.return_, 1) := by decide +kernel
def J_X5_save_29 (b0 fu : Nat)   (σ : tM) : Option ((Unit) × tM) := some ((), σ)
def m_X5_save (b0 fu : Nat) (a0 : Nat) (p0 : Int32) (p1 : Option Nat) (σ : tM) : Option ((Unit) × tM) := grw σ (if (p0) < (0) then J_X5_save_29 b0 fu    (σ) else if (2034) ≤ (p0) then J_X5_save_29 b0 fu    (σ) else ckO b0 (σ) (a0) 5 (osm (tA (σ) (a0) 0) (fun a5 => omt (p1) (fun o7 => ckO b0 (σ) (o7) 4 (osm (tA (σ) (o7) 0) (fun a11 => ckR b0 (σ) (a5) 3 (fun n15 => ckR b0 (σ) (a11) 3 (fun n18 => ckC ((p0) * (32)) (0) (32) (n15) (n18) (J_X5_save_29 b0 fu    (sLr (σ) (a11) (va_cpy (tL (σ) (a5)) (tL (σ) (a11)) (((p0) * (32)).toNatClampNeg) (((0 : Int32)).toNatClampNeg) (((32 : Int32)).toNatClampNeg))))))))) (none))))
set_option maxRecDepth 100000 in
set_option maxHeartbeats 1000000 in
theorem j_X5_save_29 {p : Program} {l : Launch} {e : Env} {s : State} {m : MethodId} {args : Array Value} {below : List Frame} {meth : Method} {c : Code} {D : va_G} {aC : Nat → ClassId} {b0 fu : Nat} {σ0 τ : tM} {v : Unit}  (C : tCx p l s m args meth c yX5_save.cls cX5_save 3 none D aC b0 σ0) (htab : ∀ x ∈ c.exceptionTable.toList, False) (hin : meth.name = yX5_save.name)   {σ : tM} (hm : J_X5_save_29 b0 fu   σ = some (v, τ)) : tX p l e s m args below meth c 3 1 26 D aC b0 σ0 (.inl none) τ 29 [] [] σ := by
  unfold J_X5_save_29 at hm
  obtain ⟨rfl, rfl⟩ := ret_e hm
  exact zx_vret C rfl rfl rfl dX5_save_29
set_option maxRecDepth 100000 in
set_option maxHeartbeats 1000000 in
theorem c_X5_save {l : Launch} {D : va_G} {aC : Nat → ClassId} {b0 fu : Nat} {a0 : Nat} {p0 : Int32} {p1 : Option Nat} {σ τ : tM} {v : Unit} (hm : m_X5_save b0 fu a0 p0 p1 σ = some (v, τ)) : tMt l D aC b0 yX5_save (Cond.code yX5_save cX5_save 3 none) 1 26 [.ref (a0), .int (p0), va_rf (p1)] σ (.inl none) τ := by
  unfold m_X5_save at hm
  obtain ⟨hg, hm⟩ := grw_e hm
  refine tMt_of (n := 0) rfl (by cases p1 <;> exact Nat.le_of_ble_eq_true rfl) hg ?_
  intro p e s m below meth c C htab hin
  refine zx_lv [0, 1, 2] [(0, .ref (a0)), (1, .int (p0)), (2, va_rf (p1))] (by cases p1 <;> rfl) ?_
  refine zx_iload_n C dX5_save_0 1 rfl ?_
  refine zx_if_lt C 29 dX5_save_1 (by decide) (fun c1 => ?_) (fun c1 => ?_)
  · replace hm := ip_e hm c1
    exact zx_lv [] [] rfl (j_X5_save_29 C htab hin    hm)
  · replace hm := in_e hm c1
    refine zx_iload_n C dX5_save_4 1 rfl ?_
    refine zx_sipush (v := 2034) C dX5_save_5 (by decide) ?_
    refine zx_icmp_ge C 29 dX5_save_8 (by decide) (fun c2 => ?_) (fun c2 => ?_)
    · replace hm := ip_e hm c2
      exact zx_lv [] [] rfl (j_X5_save_29 C htab hin    hm)
    · replace hm := in_e hm c2
      refine zx_aload_n C dX5_save_11 0 rfl ?_
      obtain ⟨k3, i4, hm⟩ := ckO_e hm
      obtain ⟨a5, h6, hm⟩ := osm_e hm
      refine zx_get (j := 0) C tC_5 k3 i4 ⟨by decide, Or.inl W_1_94⟩ dX5_save_12 (.ref a5) (rf_s h6) ?_
      refine zx_iload_n C dX5_save_15 1 rfl ?_
      refine zx_bipush (v := 32) C dX5_save_16 (by decide) ?_
      refine zx_imul C dX5_save_18 ?_
      rcases omt_e hm with ⟨o7, h8, hm⟩ | ⟨h8, hm⟩
      · refine zx_lv [0, 1, 2] [(0, .ref (a0)), (1, .int (p0)), (2, .ref (o7))] (by rw [h8]; rfl) ?_
        refine zx_aload_n C dX5_save_19 2 rfl ?_
        obtain ⟨k9, i10, hm⟩ := ckO_e hm
        obtain ⟨a11, h12, hm⟩ := osm_e hm
        refine zx_get (j := 0) C tC_4 k9 i10 ⟨by decide, Or.inr ⟨_, W_2_191⟩⟩ dX5_save_20 (.ref a11) (rf_s h12) ?_
        refine zx_iconst (v := 0) C dX5_save_23 (by decide) ?_
        refine zx_bipush (v := 32) C dX5_save_24 (by decide) ?_
        obtain ⟨n15, k13, i14, hm⟩ := ckR_e hm
        obtain ⟨n18, k16, i17, hm⟩ := ckR_e hm
        obtain ⟨h19, hm⟩ := ckC_e hm
        refine zx_copyJ (σ := σ) C W_2_133 W_2_135 W_2_134 W_1_11 k13 i14 k16 i17 h19  (by decide) (by decide) (Nat.le_of_ble_eq_true rfl) dX5_save_26 ?_
        exact zx_lv [] [] rfl (j_X5_save_29 C htab hin    hm)
      · refine zx_lv [0, 1, 2] [(0, .ref (a0)), (1, .int (p0)), (2, .null)] (by rw [h8]; rfl) ?_
        refine zx_aload_nN C dX5_save_19 2 rfl ?_
        cases hm
abbrev cX5_touch : ByteArray := prog_7_method_20_code
def yX5_touch : MethodName := ⟨"SyncTree$Space", "touch", "(I)V"⟩
theorem Y_X5_touch : tY yX5_touch cX5_touch 2 none 1 := ⟨W_2_159, W_1_3, ⟨by decide +kernel, by decide +kernel⟩, by decide +kernel⟩
theorem dX5_touch_0 : decode cX5_touch 0 = .ok (.iload_n 1, 1) := by decide +kernel
theorem dX5_touch_1 : decode cX5_touch 1 = .ok (.ifCond .le 37, 3) := by decide +kernel
theorem dX5_touch_4 : decode cX5_touch 4 = .ok (.iload_n 1, 1) := by decide +kernel
theorem dX5_touch_5 : decode cX5_touch 5 = .ok (.aload_n 0, 1) := by decide +kernel
theorem dX5_touch_6 : decode cX5_touch 6 = .ok (.getfield 48, 3) := by decide +kernel
theorem dX5_touch_9 : decode cX5_touch 9 = .ok (.if_icmp .ge 29, 3) := by decide +kernel
theorem dX5_touch_12 : decode cX5_touch 12 = .ok (.aload_n 0, 1) := by decide +kernel
theorem dX5_touch_13 : decode cX5_touch 13 = .ok (.getfield 27, 3) := by decide +kernel
theorem dX5_touch_16 : decode cX5_touch 16 = .ok (.iload_n 1, 1) := by decide +kernel
theorem dX5_touch_17 : decode cX5_touch 17 = .ok (.baload, 1) := by decide +kernel
theorem dX5_touch_18 : decode cX5_touch 18 = .ok (.ifCond .ne 20, 3) := by decide +kernel
theorem dX5_touch_21 : decode cX5_touch 21 = .ok (.aload_n 0, 1) := by decide +kernel
theorem dX5_touch_22 : decode cX5_touch 22 = .ok (.getfield 27, 3) := by decide +kernel
theorem dX5_touch_25 : decode cX5_touch 25 = .ok (.iload_n 1, 1) := by decide +kernel
theorem dX5_touch_26 : decode cX5_touch 26 = .ok (.iconst 1, 1) := by decide +kernel
theorem dX5_touch_27 : decode cX5_touch 27 = .ok (.bastore, 1) := by decide +kernel
theorem dX5_touch_28 : decode cX5_touch 28 = .ok (.aload_n 0, 1) := by decide +kernel
theorem dX5_touch_29 : decode cX5_touch 29 = .ok (.dup, 1) := by decide +kernel
theorem dX5_touch_30 : decode cX5_touch 30 = .ok (.getfield 78, 3) := by decide +kernel
theorem dX5_touch_33 : decode cX5_touch 33 = .ok (.iconst 1, 1) := by decide +kernel
theorem dX5_touch_34 : decode cX5_touch 34 = .ok (.iadd, 1) := by decide +kernel
theorem dX5_touch_35 : decode cX5_touch 35 = .ok (.putfield 78, 3) := by decide +kernel
theorem dX5_touch_38 : decode cX5_touch 38 = .ok (.return_, 1) := by decide +kernel
def J_X5_touch_38 (b0 fu : Nat)   (σ : tM) : Option ((Unit) × tM) := some ((), σ)
def m_X5_touch (b0 fu : Nat) (a0 : Nat) (p0 : Int32) (σ : tM) : Option ((Unit) × tM) := grw σ (if (p0) ≤ (0) then J_X5_touch_38 b0 fu    (σ) else ckO b0 (σ) (a0) 5 (if (tI (σ) (a0) 7) ≤ (p0) then J_X5_touch_38 b0 fu    (σ) else osm (tA (σ) (a0) 4) (fun a5 => ckR b0 (σ) (a5) 1 (fun n9 => ckI (p0) (n9) (if (tI (σ) (a5) ((p0).toNatClampNeg)) = (0) then osm (tA (σ) (a0) 4) (fun a12 => ckR b0 (σ) (a12) 1 (fun n16 => ckI (p0) (n16) (J_X5_touch_38 b0 fu    (sI (sI (σ) (a12) ((p0).toNatClampNeg) (vp_nar .byte ((1 : Int32)))) (a0) 11 ((tI (sI (σ) (a12) ((p0).toNatClampNeg) (vp_nar .byte ((1 : Int32)))) (a0) 11) + (1)))))) else J_X5_touch_38 b0 fu    (σ))))))
set_option maxRecDepth 100000 in
set_option maxHeartbeats 1000000 in
theorem j_X5_touch_38 {p : Program} {l : Launch} {e : Env} {s : State} {m : MethodId} {args : Array Value} {below : List Frame} {meth : Method} {c : Code} {D : va_G} {aC : Nat → ClassId} {b0 fu : Nat} {σ0 τ : tM} {v : Unit}  (C : tCx p l s m args meth c yX5_touch.cls cX5_touch 2 none D aC b0 σ0) (htab : ∀ x ∈ c.exceptionTable.toList, False) (hin : meth.name = yX5_touch.name)   {σ : tM} (hm : J_X5_touch_38 b0 fu   σ = some (v, τ)) : tX p l e s m args below meth c 2 0 0 D aC b0 σ0 (.inl none) τ 38 [] [] σ := by
  unfold J_X5_touch_38 at hm
  obtain ⟨rfl, rfl⟩ := ret_e hm
  exact zx_vret C rfl rfl rfl dX5_touch_38
set_option maxRecDepth 100000 in
set_option maxHeartbeats 1000000 in
theorem c_X5_touch {l : Launch} {D : va_G} {aC : Nat → ClassId} {b0 fu : Nat} {a0 : Nat} {p0 : Int32} {σ τ : tM} {v : Unit} (hm : m_X5_touch b0 fu a0 p0 σ = some (v, τ)) : tMt l D aC b0 yX5_touch (Cond.code yX5_touch cX5_touch 2 none) 0 0 [.ref (a0), .int (p0)] σ (.inl none) τ := by
  unfold m_X5_touch at hm
  obtain ⟨hg, hm⟩ := grw_e hm
  refine tMt_of (n := 0) rfl (Nat.le_of_ble_eq_true rfl) hg ?_
  intro p e s m below meth c C htab hin
  refine zx_lv [0, 1] [(0, .ref (a0)), (1, .int (p0))] rfl ?_
  refine zx_iload_n C dX5_touch_0 1 rfl ?_
  refine zx_if_le C 38 dX5_touch_1 (by decide) (fun c1 => ?_) (fun c1 => ?_)
  · replace hm := ip_e hm c1
    exact zx_lv [] [] rfl (j_X5_touch_38 C htab hin    hm)
  · replace hm := in_e hm c1
    refine zx_iload_n C dX5_touch_4 1 rfl ?_
    refine zx_aload_n C dX5_touch_5 0 rfl ?_
    obtain ⟨k2, i3, hm⟩ := ckO_e hm
    refine zx_get (j := 7) C tC_5 k2 i3 ⟨by decide, Or.inl W_1_104⟩ dX5_touch_6 (.int (tI (σ) (a0) 7)) rfl ?_
    refine zx_icmp_ge C 38 dX5_touch_9 (by decide) (fun c4 => ?_) (fun c4 => ?_)
    · replace hm := ip_e hm c4
      exact zx_lv [] [] rfl (j_X5_touch_38 C htab hin    hm)
    · replace hm := in_e hm c4
      refine zx_aload_n C dX5_touch_12 0 rfl ?_
      obtain ⟨a5, h6, hm⟩ := osm_e hm
      refine zx_get (j := 4) C tC_5 k2 i3 ⟨by decide, Or.inl W_1_100⟩ dX5_touch_13 (.ref a5) (rf_s h6) ?_
      refine zx_iload_n C dX5_touch_16 1 rfl ?_
      obtain ⟨n9, k7, i8, hm⟩ := ckR_e hm
      obtain ⟨h10, hm⟩ := ckI_e hm
      refine zx_bald C k7 i8 h10 dX5_touch_17 ?_
      refine zx_if_ne C 38 dX5_touch_18 (by decide) (fun c11 => ?_) (fun c11 => ?_)
      · replace hm := in_e hm c11
        exact zx_lv [] [] rfl (j_X5_touch_38 C htab hin    hm)
      · replace hm := ip_e hm c11
        refine zx_aload_n C dX5_touch_21 0 rfl ?_
        obtain ⟨a12, h13, hm⟩ := osm_e hm
        refine zx_get (j := 4) C tC_5 k2 i3 ⟨by decide, Or.inl W_1_100⟩ dX5_touch_22 (.ref a12) (rf_s h13) ?_
        refine zx_iload_n C dX5_touch_25 1 rfl ?_
        refine zx_iconst (v := 1) C dX5_touch_26 (by decide) ?_
        obtain ⟨n16, k14, i15, hm⟩ := ckR_e hm
        obtain ⟨h17, hm⟩ := ckI_e hm
        refine zx_bast C k14 i15 h17 dX5_touch_27 ?_
        refine zx_aload_n C dX5_touch_28 0 rfl ?_
        refine zx_dup C dX5_touch_29 rfl ?_
        refine zx_get (j := 11) C tC_5 k2 i3 ⟨by decide, Or.inl W_1_111⟩ dX5_touch_30 (.int (tI (sI (σ) (a12) ((p0).toNatClampNeg) (vp_nar .byte ((1 : Int32)))) (a0) 11)) rfl ?_
        refine zx_iconst (v := 1) C dX5_touch_33 (by decide) ?_
        refine zx_iadd C dX5_touch_34 ?_
        refine zx_put (j := 11) (ρ := sI (sI (σ) (a12) ((p0).toNatClampNeg) (vp_nar .byte ((1 : Int32)))) (a0) 11 ((tI (sI (σ) (a12) ((p0).toNatClampNeg) (vp_nar .byte ((1 : Int32)))) (a0) 11) + (1))) C tC_5 k2 i3 ⟨by decide, Or.inl W_1_111⟩ rfl rfl rfl (sI_ok (fun _ => rfl)) dX5_touch_35 ?_
        exact zx_lv [] [] rfl (j_X5_touch_38 C htab hin    hm)
abbrev cX5_soil : ByteArray := prog_7_method_21_code
def yX5_soil : MethodName := ⟨"SyncTree$Space", "soil", "(I)V"⟩
theorem Y_X5_soil : tY yX5_soil cX5_soil 2 none 1 := ⟨W_5_83, W_1_3, ⟨by decide +kernel, by decide +kernel⟩, by decide +kernel⟩
theorem dX5_soil_0 : decode cX5_soil 0 = .ok (.iload_n 1, 1) := by decide +kernel
theorem dX5_soil_1 : decode cX5_soil 1 = .ok (.ifCond .le 37, 3) := by decide +kernel
theorem dX5_soil_4 : decode cX5_soil 4 = .ok (.iload_n 1, 1) := by decide +kernel
theorem dX5_soil_5 : decode cX5_soil 5 = .ok (.aload_n 0, 1) := by decide +kernel
theorem dX5_soil_6 : decode cX5_soil 6 = .ok (.getfield 48, 3) := by decide +kernel
theorem dX5_soil_9 : decode cX5_soil 9 = .ok (.if_icmp .ge 29, 3) := by decide +kernel
theorem dX5_soil_12 : decode cX5_soil 12 = .ok (.aload_n 0, 1) := by decide +kernel
theorem dX5_soil_13 : decode cX5_soil 13 = .ok (.getfield 33, 3) := by decide +kernel
theorem dX5_soil_16 : decode cX5_soil 16 = .ok (.iload_n 1, 1) := by decide +kernel
theorem dX5_soil_17 : decode cX5_soil 17 = .ok (.baload, 1) := by decide +kernel
theorem dX5_soil_18 : decode cX5_soil 18 = .ok (.ifCond .ne 20, 3) := by decide +kernel
theorem dX5_soil_21 : decode cX5_soil 21 = .ok (.aload_n 0, 1) := by decide +kernel
theorem dX5_soil_22 : decode cX5_soil 22 = .ok (.getfield 33, 3) := by decide +kernel
theorem dX5_soil_25 : decode cX5_soil 25 = .ok (.iload_n 1, 1) := by decide +kernel
theorem dX5_soil_26 : decode cX5_soil 26 = .ok (.iconst 1, 1) := by decide +kernel
theorem dX5_soil_27 : decode cX5_soil 27 = .ok (.bastore, 1) := by decide +kernel
theorem dX5_soil_28 : decode cX5_soil 28 = .ok (.aload_n 0, 1) := by decide +kernel
theorem dX5_soil_29 : decode cX5_soil 29 = .ok (.dup, 1) := by decide +kernel
theorem dX5_soil_30 : decode cX5_soil 30 = .ok (.getfield 65, 3) := by decide +kernel
theorem dX5_soil_33 : decode cX5_soil 33 = .ok (.iconst 1, 1) := by decide +kernel
theorem dX5_soil_34 : decode cX5_soil 34 = .ok (.iadd, 1) := by decide +kernel
theorem dX5_soil_35 : decode cX5_soil 35 = .ok (.putfield 65, 3) := by decide +kernel
theorem dX5_soil_38 : decode cX5_soil 38 = .ok (.return_, 1) := by decide +kernel
def J_X5_soil_38 (b0 fu : Nat)   (σ : tM) : Option ((Unit) × tM) := some ((), σ)
def m_X5_soil (b0 fu : Nat) (a0 : Nat) (p0 : Int32) (σ : tM) : Option ((Unit) × tM) := grw σ (if (p0) ≤ (0) then J_X5_soil_38 b0 fu    (σ) else ckO b0 (σ) (a0) 5 (if (tI (σ) (a0) 7) ≤ (p0) then J_X5_soil_38 b0 fu    (σ) else osm (tA (σ) (a0) 6) (fun a5 => ckR b0 (σ) (a5) 1 (fun n9 => ckI (p0) (n9) (if (tI (σ) (a5) ((p0).toNatClampNeg)) = (0) then osm (tA (σ) (a0) 6) (fun a12 => ckR b0 (σ) (a12) 1 (fun n16 => ckI (p0) (n16) (J_X5_soil_38 b0 fu    (sI (sI (σ) (a12) ((p0).toNatClampNeg) (vp_nar .byte ((1 : Int32)))) (a0) 13 ((tI (sI (σ) (a12) ((p0).toNatClampNeg) (vp_nar .byte ((1 : Int32)))) (a0) 13) + (1)))))) else J_X5_soil_38 b0 fu    (σ))))))
set_option maxRecDepth 100000 in
set_option maxHeartbeats 1000000 in
theorem j_X5_soil_38 {p : Program} {l : Launch} {e : Env} {s : State} {m : MethodId} {args : Array Value} {below : List Frame} {meth : Method} {c : Code} {D : va_G} {aC : Nat → ClassId} {b0 fu : Nat} {σ0 τ : tM} {v : Unit}  (C : tCx p l s m args meth c yX5_soil.cls cX5_soil 2 none D aC b0 σ0) (htab : ∀ x ∈ c.exceptionTable.toList, False) (hin : meth.name = yX5_soil.name)   {σ : tM} (hm : J_X5_soil_38 b0 fu   σ = some (v, τ)) : tX p l e s m args below meth c 2 0 0 D aC b0 σ0 (.inl none) τ 38 [] [] σ := by
  unfold J_X5_soil_38 at hm
  obtain ⟨rfl, rfl⟩ := ret_e hm
  exact zx_vret C rfl rfl rfl dX5_soil_38
set_option maxRecDepth 100000 in
set_option maxHeartbeats 1000000 in
theorem c_X5_soil {l : Launch} {D : va_G} {aC : Nat → ClassId} {b0 fu : Nat} {a0 : Nat} {p0 : Int32} {σ τ : tM} {v : Unit} (hm : m_X5_soil b0 fu a0 p0 σ = some (v, τ)) : tMt l D aC b0 yX5_soil (Cond.code yX5_soil cX5_soil 2 none) 0 0 [.ref (a0), .int (p0)] σ (.inl none) τ := by
  unfold m_X5_soil at hm
  obtain ⟨hg, hm⟩ := grw_e hm
  refine tMt_of (n := 0) rfl (Nat.le_of_ble_eq_true rfl) hg ?_
  intro p e s m below meth c C htab hin
  refine zx_lv [0, 1] [(0, .ref (a0)), (1, .int (p0))] rfl ?_
  refine zx_iload_n C dX5_soil_0 1 rfl ?_
  refine zx_if_le C 38 dX5_soil_1 (by decide) (fun c1 => ?_) (fun c1 => ?_)
  · replace hm := ip_e hm c1
    exact zx_lv [] [] rfl (j_X5_soil_38 C htab hin    hm)
  · replace hm := in_e hm c1
    refine zx_iload_n C dX5_soil_4 1 rfl ?_
    refine zx_aload_n C dX5_soil_5 0 rfl ?_
    obtain ⟨k2, i3, hm⟩ := ckO_e hm
    refine zx_get (j := 7) C tC_5 k2 i3 ⟨by decide, Or.inl W_1_104⟩ dX5_soil_6 (.int (tI (σ) (a0) 7)) rfl ?_
    refine zx_icmp_ge C 38 dX5_soil_9 (by decide) (fun c4 => ?_) (fun c4 => ?_)
    · replace hm := ip_e hm c4
      exact zx_lv [] [] rfl (j_X5_soil_38 C htab hin    hm)
    · replace hm := in_e hm c4
      refine zx_aload_n C dX5_soil_12 0 rfl ?_
      obtain ⟨a5, h6, hm⟩ := osm_e hm
      refine zx_get (j := 6) C tC_5 k2 i3 ⟨by decide, Or.inl W_1_102⟩ dX5_soil_13 (.ref a5) (rf_s h6) ?_
      refine zx_iload_n C dX5_soil_16 1 rfl ?_
      obtain ⟨n9, k7, i8, hm⟩ := ckR_e hm
      obtain ⟨h10, hm⟩ := ckI_e hm
      refine zx_bald C k7 i8 h10 dX5_soil_17 ?_
      refine zx_if_ne C 38 dX5_soil_18 (by decide) (fun c11 => ?_) (fun c11 => ?_)
      · replace hm := in_e hm c11
        exact zx_lv [] [] rfl (j_X5_soil_38 C htab hin    hm)
      · replace hm := ip_e hm c11
        refine zx_aload_n C dX5_soil_21 0 rfl ?_
        obtain ⟨a12, h13, hm⟩ := osm_e hm
        refine zx_get (j := 6) C tC_5 k2 i3 ⟨by decide, Or.inl W_1_102⟩ dX5_soil_22 (.ref a12) (rf_s h13) ?_
        refine zx_iload_n C dX5_soil_25 1 rfl ?_
        refine zx_iconst (v := 1) C dX5_soil_26 (by decide) ?_
        obtain ⟨n16, k14, i15, hm⟩ := ckR_e hm
        obtain ⟨h17, hm⟩ := ckI_e hm
        refine zx_bast C k14 i15 h17 dX5_soil_27 ?_
        refine zx_aload_n C dX5_soil_28 0 rfl ?_
        refine zx_dup C dX5_soil_29 rfl ?_
        refine zx_get (j := 13) C tC_5 k2 i3 ⟨by decide, Or.inl W_1_115⟩ dX5_soil_30 (.int (tI (sI (σ) (a12) ((p0).toNatClampNeg) (vp_nar .byte ((1 : Int32)))) (a0) 13)) rfl ?_
        refine zx_iconst (v := 1) C dX5_soil_33 (by decide) ?_
        refine zx_iadd C dX5_soil_34 ?_
        refine zx_put (j := 13) (ρ := sI (sI (σ) (a12) ((p0).toNatClampNeg) (vp_nar .byte ((1 : Int32)))) (a0) 13 ((tI (sI (σ) (a12) ((p0).toNatClampNeg) (vp_nar .byte ((1 : Int32)))) (a0) 13) + (1))) C tC_5 k2 i3 ⟨by decide, Or.inl W_1_115⟩ rfl rfl rfl (sI_ok (fun _ => rfl)) dX5_soil_35 ?_
        exact zx_lv [] [] rfl (j_X5_soil_38 C htab hin    hm)
abbrev cX5_clean : ByteArray := prog_7_method_22_code
def yX5_clean : MethodName := ⟨"SyncTree$Space", "clean", "(I)V"⟩
theorem Y_X5_clean : tY yX5_clean cX5_clean 2 none 1 := ⟨W_2_122, W_1_3, ⟨by decide +kernel, by decide +kernel⟩, by decide +kernel⟩
theorem dX5_clean_0 : decode cX5_clean 0 = .ok (.iload_n 1, 1) := by decide +kernel
theorem dX5_clean_1 : decode cX5_clean 1 = .ok (.ifCond .le 37, 3) := by decide +kernel
theorem dX5_clean_4 : decode cX5_clean 4 = .ok (.iload_n 1, 1) := by decide +kernel
theorem dX5_clean_5 : decode cX5_clean 5 = .ok (.aload_n 0, 1) := by decide +kernel
theorem dX5_clean_6 : decode cX5_clean 6 = .ok (.getfield 48, 3) := by decide +kernel
theorem dX5_clean_9 : decode cX5_clean 9 = .ok (.if_icmp .ge 29, 3) := by decide +kernel
theorem dX5_clean_12 : decode cX5_clean 12 = .ok (.aload_n 0, 1) := by decide +kernel
theorem dX5_clean_13 : decode cX5_clean 13 = .ok (.getfield 33, 3) := by decide +kernel
theorem dX5_clean_16 : decode cX5_clean 16 = .ok (.iload_n 1, 1) := by decide +kernel
theorem dX5_clean_17 : decode cX5_clean 17 = .ok (.baload, 1) := by decide +kernel
theorem dX5_clean_18 : decode cX5_clean 18 = .ok (.ifCond .eq 20, 3) := by decide +kernel
theorem dX5_clean_21 : decode cX5_clean 21 = .ok (.aload_n 0, 1) := by decide +kernel
theorem dX5_clean_22 : decode cX5_clean 22 = .ok (.getfield 33, 3) := by decide +kernel
theorem dX5_clean_25 : decode cX5_clean 25 = .ok (.iload_n 1, 1) := by decide +kernel
theorem dX5_clean_26 : decode cX5_clean 26 = .ok (.iconst 0, 1) := by decide +kernel
theorem dX5_clean_27 : decode cX5_clean 27 = .ok (.bastore, 1) := by decide +kernel
theorem dX5_clean_28 : decode cX5_clean 28 = .ok (.aload_n 0, 1) := by decide +kernel
theorem dX5_clean_29 : decode cX5_clean 29 = .ok (.dup, 1) := by decide +kernel
theorem dX5_clean_30 : decode cX5_clean 30 = .ok (.getfield 65, 3) := by decide +kernel
theorem dX5_clean_33 : decode cX5_clean 33 = .ok (.iconst 1, 1) := by decide +kernel
theorem dX5_clean_34 : decode cX5_clean 34 = .ok (.isub, 1) := by decide +kernel
theorem dX5_clean_35 : decode cX5_clean 35 = .ok (.putfield 65, 3) := by decide +kernel
theorem dX5_clean_38 : decode cX5_clean 38 = .ok (.return_, 1) := by decide +kernel
def J_X5_clean_38 (b0 fu : Nat)   (σ : tM) : Option ((Unit) × tM) := some ((), σ)
def m_X5_clean (b0 fu : Nat) (a0 : Nat) (p0 : Int32) (σ : tM) : Option ((Unit) × tM) := grw σ (if (p0) ≤ (0) then J_X5_clean_38 b0 fu    (σ) else ckO b0 (σ) (a0) 5 (if (tI (σ) (a0) 7) ≤ (p0) then J_X5_clean_38 b0 fu    (σ) else osm (tA (σ) (a0) 6) (fun a5 => ckR b0 (σ) (a5) 1 (fun n9 => ckI (p0) (n9) (if (tI (σ) (a5) ((p0).toNatClampNeg)) = (0) then J_X5_clean_38 b0 fu    (σ) else osm (tA (σ) (a0) 6) (fun a12 => ckR b0 (σ) (a12) 1 (fun n16 => ckI (p0) (n16) (J_X5_clean_38 b0 fu    (sI (sI (σ) (a12) ((p0).toNatClampNeg) (vp_nar .byte ((0 : Int32)))) (a0) 13 ((tI (sI (σ) (a12) ((p0).toNatClampNeg) (vp_nar .byte ((0 : Int32)))) (a0) 13) - (1)))))))))))
set_option maxRecDepth 100000 in
set_option maxHeartbeats 1000000 in
theorem j_X5_clean_38 {p : Program} {l : Launch} {e : Env} {s : State} {m : MethodId} {args : Array Value} {below : List Frame} {meth : Method} {c : Code} {D : va_G} {aC : Nat → ClassId} {b0 fu : Nat} {σ0 τ : tM} {v : Unit}  (C : tCx p l s m args meth c yX5_clean.cls cX5_clean 2 none D aC b0 σ0) (htab : ∀ x ∈ c.exceptionTable.toList, False) (hin : meth.name = yX5_clean.name)   {σ : tM} (hm : J_X5_clean_38 b0 fu   σ = some (v, τ)) : tX p l e s m args below meth c 2 0 0 D aC b0 σ0 (.inl none) τ 38 [] [] σ := by
  unfold J_X5_clean_38 at hm
  obtain ⟨rfl, rfl⟩ := ret_e hm
  exact zx_vret C rfl rfl rfl dX5_clean_38
set_option maxRecDepth 100000 in
set_option maxHeartbeats 1000000 in
theorem c_X5_clean {l : Launch} {D : va_G} {aC : Nat → ClassId} {b0 fu : Nat} {a0 : Nat} {p0 : Int32} {σ τ : tM} {v : Unit} (hm : m_X5_clean b0 fu a0 p0 σ = some (v, τ)) : tMt l D aC b0 yX5_clean (Cond.code yX5_clean cX5_clean 2 none) 0 0 [.ref (a0), .int (p0)] σ (.inl none) τ := by
  unfold m_X5_clean at hm
  obtain ⟨hg, hm⟩ := grw_e hm
  refine tMt_of (n := 0) rfl (Nat.le_of_ble_eq_true rfl) hg ?_
  intro p e s m below meth c C htab hin
  refine zx_lv [0, 1] [(0, .ref (a0)), (1, .int (p0))] rfl ?_
  refine zx_iload_n C dX5_clean_0 1 rfl ?_
  refine zx_if_le C 38 dX5_clean_1 (by decide) (fun c1 => ?_) (fun c1 => ?_)
  · replace hm := ip_e hm c1
    exact zx_lv [] [] rfl (j_X5_clean_38 C htab hin    hm)
  · replace hm := in_e hm c1
    refine zx_iload_n C dX5_clean_4 1 rfl ?_
    refine zx_aload_n C dX5_clean_5 0 rfl ?_
    obtain ⟨k2, i3, hm⟩ := ckO_e hm
    refine zx_get (j := 7) C tC_5 k2 i3 ⟨by decide, Or.inl W_1_104⟩ dX5_clean_6 (.int (tI (σ) (a0) 7)) rfl ?_
    refine zx_icmp_ge C 38 dX5_clean_9 (by decide) (fun c4 => ?_) (fun c4 => ?_)
    · replace hm := ip_e hm c4
      exact zx_lv [] [] rfl (j_X5_clean_38 C htab hin    hm)
    · replace hm := in_e hm c4
      refine zx_aload_n C dX5_clean_12 0 rfl ?_
      obtain ⟨a5, h6, hm⟩ := osm_e hm
      refine zx_get (j := 6) C tC_5 k2 i3 ⟨by decide, Or.inl W_1_102⟩ dX5_clean_13 (.ref a5) (rf_s h6) ?_
      refine zx_iload_n C dX5_clean_16 1 rfl ?_
      obtain ⟨n9, k7, i8, hm⟩ := ckR_e hm
      obtain ⟨h10, hm⟩ := ckI_e hm
      refine zx_bald C k7 i8 h10 dX5_clean_17 ?_
      refine zx_if_eq C 38 dX5_clean_18 (by decide) (fun c11 => ?_) (fun c11 => ?_)
      · replace hm := ip_e hm c11
        exact zx_lv [] [] rfl (j_X5_clean_38 C htab hin    hm)
      · replace hm := in_e hm c11
        refine zx_aload_n C dX5_clean_21 0 rfl ?_
        obtain ⟨a12, h13, hm⟩ := osm_e hm
        refine zx_get (j := 6) C tC_5 k2 i3 ⟨by decide, Or.inl W_1_102⟩ dX5_clean_22 (.ref a12) (rf_s h13) ?_
        refine zx_iload_n C dX5_clean_25 1 rfl ?_
        refine zx_iconst (v := 0) C dX5_clean_26 (by decide) ?_
        obtain ⟨n16, k14, i15, hm⟩ := ckR_e hm
        obtain ⟨h17, hm⟩ := ckI_e hm
        refine zx_bast C k14 i15 h17 dX5_clean_27 ?_
        refine zx_aload_n C dX5_clean_28 0 rfl ?_
        refine zx_dup C dX5_clean_29 rfl ?_
        refine zx_get (j := 13) C tC_5 k2 i3 ⟨by decide, Or.inl W_1_115⟩ dX5_clean_30 (.int (tI (sI (σ) (a12) ((p0).toNatClampNeg) (vp_nar .byte ((0 : Int32)))) (a0) 13)) rfl ?_
        refine zx_iconst (v := 1) C dX5_clean_33 (by decide) ?_
        refine zx_isub C dX5_clean_34 ?_
        refine zx_put (j := 13) (ρ := sI (sI (σ) (a12) ((p0).toNatClampNeg) (vp_nar .byte ((0 : Int32)))) (a0) 13 ((tI (sI (σ) (a12) ((p0).toNatClampNeg) (vp_nar .byte ((0 : Int32)))) (a0) 13) - (1))) C tC_5 k2 i3 ⟨by decide, Or.inl W_1_115⟩ rfl rfl rfl (sI_ok (fun _ => rfl)) dX5_clean_35 ?_
        exact zx_lv [] [] rfl (j_X5_clean_38 C htab hin    hm)
abbrev cX5_adopt : ByteArray := prog_7_method_24_code
def yX5_adopt : MethodName := ⟨"SyncTree$Space", "adopt", "(III)V"⟩
theorem Y_X5_adopt : tY yX5_adopt cX5_adopt 4 none 3 := ⟨W_4_210, W_1_3, ⟨by decide +kernel, by decide +kernel⟩, by decide +kernel⟩
theorem dX5_adopt_0 : decode cX5_adopt 0 = .ok (.iload_n 1, 1) := by decide +kernel
theorem dX5_adopt_1 : decode cX5_adopt 1 = .ok (.bipush 34, 2) := by decide +kernel
theorem dX5_adopt_3 : decode cX5_adopt 3 = .ok (.if_icmp .lt 33, 3) := by decide +kernel
theorem dX5_adopt_6 : decode cX5_adopt 6 = .ok (.iload_n 1, 1) := by decide +kernel
theorem dX5_adopt_7 : decode cX5_adopt 7 = .ok (.aload_n 0, 1) := by decide +kernel
theorem dX5_adopt_8 : decode cX5_adopt 8 = .ok (.getfield 48, 3) := by decide +kernel
theorem dX5_adopt_11 : decode cX5_adopt 11 = .ok (.if_icmp .ge 25, 3) := by decide +kernel
theorem dX5_adopt_14 : decode cX5_adopt 14 = .ok (.aload_n 0, 1) := by decide +kernel
theorem dX5_adopt_15 : decode cX5_adopt 15 = .ok (.getfield 16, 3) := by decide +kernel
theorem dX5_adopt_18 : decode cX5_adopt 18 = .ok (.iload_n 1, 1) := by decide +kernel
theorem dX5_adopt_19 : decode cX5_adopt 19 = .ok (.iconst (-1), 1) := by decide +kernel
theorem dX5_adopt_20 : decode cX5_adopt 20 = .ok (.iastore, 1) := by decide +kernel
theorem dX5_adopt_21 : decode cX5_adopt 21 = .ok (.aload_n 0, 1) := by decide +kernel
theorem dX5_adopt_22 : decode cX5_adopt 22 = .ok (.getfield 20, 3) := by decide +kernel
theorem dX5_adopt_25 : decode cX5_adopt 25 = .ok (.iload_n 1, 1) := by decide +kernel
theorem dX5_adopt_26 : decode cX5_adopt 26 = .ok (.iload_n 2, 1) := by decide +kernel
theorem dX5_adopt_27 : decode cX5_adopt 27 = .ok (.iastore, 1) := by decide +kernel
theorem dX5_adopt_28 : decode cX5_adopt 28 = .ok (.aload_n 0, 1) := by decide +kernel
theorem dX5_adopt_29 : decode cX5_adopt 29 = .ok (.getfield 23, 3) := by decide +kernel
theorem dX5_adopt_32 : decode cX5_adopt 32 = .ok (.iload_n 1, 1) := by decide +kernel
theorem dX5_adopt_33 : decode cX5_adopt 33 = .ok (.iload_n 3, 1) := by decide +kernel
theorem dX5_adopt_34 : decode cX5_adopt 34 = .ok (.i2b, 1) := by decide +kernel
theorem dX5_adopt_35 : decode cX5_adopt 35 = .ok (.bastore, 1) := by decide +kernel
theorem dX5_adopt_36 : decode cX5_adopt 36 = .ok (.return_, 1) := by decide +kernel
def J_X5_adopt_36 (b0 fu : Nat)   (σ : tM) : Option ((Unit) × tM) := some ((), σ)
def m_X5_adopt (b0 fu : Nat) (a0 : Nat) (p0 : Int32) (p1 : Int32) (p2 : Int32) (σ : tM) : Option ((Unit) × tM) := grw σ (if (p0) < (34) then J_X5_adopt_36 b0 fu    (σ) else ckO b0 (σ) (a0) 5 (if (tI (σ) (a0) 7) ≤ (p0) then J_X5_adopt_36 b0 fu    (σ) else osm (tA (σ) (a0) 1) (fun a5 => ckR b0 (σ) (a5) 0 (fun n9 => ckI (p0) (n9) (osm (tA (sI (σ) (a5) ((p0).toNatClampNeg) ((-1))) (a0) 2) (fun a11 => ckR b0 (sI (σ) (a5) ((p0).toNatClampNeg) ((-1))) (a11) 0 (fun n15 => ckI (p0) (n15) (osm (tA (sI (sI (σ) (a5) ((p0).toNatClampNeg) ((-1))) (a11) ((p0).toNatClampNeg) (p1)) (a0) 3) (fun a17 => ckR b0 (sI (sI (σ) (a5) ((p0).toNatClampNeg) ((-1))) (a11) ((p0).toNatClampNeg) (p1)) (a17) 1 (fun n21 => ckI (p0) (n21) (J_X5_adopt_36 b0 fu    (sI (sI (sI (σ) (a5) ((p0).toNatClampNeg) ((-1))) (a11) ((p0).toNatClampNeg) (p1)) (a17) ((p0).toNatClampNeg) (vp_nar .byte ((p2).toInt8.toInt32))))))))))))))
set_option maxRecDepth 100000 in
set_option maxHeartbeats 1000000 in
theorem j_X5_adopt_36 {p : Program} {l : Launch} {e : Env} {s : State} {m : MethodId} {args : Array Value} {below : List Frame} {meth : Method} {c : Code} {D : va_G} {aC : Nat → ClassId} {b0 fu : Nat} {σ0 τ : tM} {v : Unit}  (C : tCx p l s m args meth c yX5_adopt.cls cX5_adopt 4 none D aC b0 σ0) (htab : ∀ x ∈ c.exceptionTable.toList, False) (hin : meth.name = yX5_adopt.name)   {σ : tM} (hm : J_X5_adopt_36 b0 fu   σ = some (v, τ)) : tX p l e s m args below meth c 4 0 0 D aC b0 σ0 (.inl none) τ 36 [] [] σ := by
  unfold J_X5_adopt_36 at hm
  obtain ⟨rfl, rfl⟩ := ret_e hm
  exact zx_vret C rfl rfl rfl dX5_adopt_36
set_option maxRecDepth 100000 in
set_option maxHeartbeats 1000000 in
theorem c_X5_adopt {l : Launch} {D : va_G} {aC : Nat → ClassId} {b0 fu : Nat} {a0 : Nat} {p0 : Int32} {p1 : Int32} {p2 : Int32} {σ τ : tM} {v : Unit} (hm : m_X5_adopt b0 fu a0 p0 p1 p2 σ = some (v, τ)) : tMt l D aC b0 yX5_adopt (Cond.code yX5_adopt cX5_adopt 4 none) 0 0 [.ref (a0), .int (p0), .int (p1), .int (p2)] σ (.inl none) τ := by
  unfold m_X5_adopt at hm
  obtain ⟨hg, hm⟩ := grw_e hm
  refine tMt_of (n := 0) rfl (Nat.le_of_ble_eq_true rfl) hg ?_
  intro p e s m below meth c C htab hin
  refine zx_lv [0, 1, 2, 3] [(0, .ref (a0)), (1, .int (p0)), (2, .int (p1)), (3, .int (p2))] rfl ?_
  refine zx_iload_n C dX5_adopt_0 1 rfl ?_
  refine zx_bipush (v := 34) C dX5_adopt_1 (by decide) ?_
  refine zx_icmp_lt C 36 dX5_adopt_3 (by decide) (fun c1 => ?_) (fun c1 => ?_)
  · replace hm := ip_e hm c1
    exact zx_lv [] [] rfl (j_X5_adopt_36 C htab hin    hm)
  · replace hm := in_e hm c1
    refine zx_iload_n C dX5_adopt_6 1 rfl ?_
    refine zx_aload_n C dX5_adopt_7 0 rfl ?_
    obtain ⟨k2, i3, hm⟩ := ckO_e hm
    refine zx_get (j := 7) C tC_5 k2 i3 ⟨by decide, Or.inl W_1_104⟩ dX5_adopt_8 (.int (tI (σ) (a0) 7)) rfl ?_
    refine zx_icmp_ge C 36 dX5_adopt_11 (by decide) (fun c4 => ?_) (fun c4 => ?_)
    · replace hm := ip_e hm c4
      exact zx_lv [] [] rfl (j_X5_adopt_36 C htab hin    hm)
    · replace hm := in_e hm c4
      refine zx_aload_n C dX5_adopt_14 0 rfl ?_
      obtain ⟨a5, h6, hm⟩ := osm_e hm
      refine zx_get (j := 1) C tC_5 k2 i3 ⟨by decide, Or.inl W_1_97⟩ dX5_adopt_15 (.ref a5) (rf_s h6) ?_
      refine zx_iload_n C dX5_adopt_18 1 rfl ?_
      refine zx_iconst (v := (-1)) C dX5_adopt_19 (by decide) ?_
      obtain ⟨n9, k7, i8, hm⟩ := ckR_e hm
      obtain ⟨h10, hm⟩ := ckI_e hm
      refine zx_iast C k7 i8 h10 dX5_adopt_20 ?_
      refine zx_aload_n C dX5_adopt_21 0 rfl ?_
      obtain ⟨a11, h12, hm⟩ := osm_e hm
      refine zx_get (j := 2) C tC_5 k2 i3 ⟨by decide, Or.inl W_1_98⟩ dX5_adopt_22 (.ref a11) (rf_s h12) ?_
      refine zx_iload_n C dX5_adopt_25 1 rfl ?_
      refine zx_iload_n C dX5_adopt_26 2 rfl ?_
      obtain ⟨n15, k13, i14, hm⟩ := ckR_e hm
      obtain ⟨h16, hm⟩ := ckI_e hm
      refine zx_iast C k13 i14 h16 dX5_adopt_27 ?_
      refine zx_aload_n C dX5_adopt_28 0 rfl ?_
      obtain ⟨a17, h18, hm⟩ := osm_e hm
      refine zx_get (j := 3) C tC_5 k2 i3 ⟨by decide, Or.inl W_1_99⟩ dX5_adopt_29 (.ref a17) (rf_s h18) ?_
      refine zx_iload_n C dX5_adopt_32 1 rfl ?_
      refine zx_iload_n C dX5_adopt_33 3 rfl ?_
      refine zx_i2b C dX5_adopt_34 ?_
      obtain ⟨n21, k19, i20, hm⟩ := ckR_e hm
      obtain ⟨h22, hm⟩ := ckI_e hm
      refine zx_bast C k19 i20 h22 dX5_adopt_35 ?_
      exact zx_lv [] [] rfl (j_X5_adopt_36 C htab hin    hm)
