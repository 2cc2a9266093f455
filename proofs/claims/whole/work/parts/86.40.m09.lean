abbrev cX12_shuffle : ByteArray := prog_13_method_111_code
def yX12_shuffle : MethodName := ⟨"SyncTreeModel", "shuffle", "(J)I"⟩
theorem Y_X12_shuffle : tY yX12_shuffle cX12_shuffle 5 (some .int) 1 := ⟨W_9_88, W_1_14, ⟨by decide +kernel, by decide +kernel⟩, by decide +kernel⟩
theorem dX12_shuffle_0 : decode cX12_shuffle 0 = .ok (.aload_n 0, 1) := by decide +kernel
theorem dX12_shuffle_1 : decode cX12_shuffle 1 = .ok (.iconst 0, 1) := by decide +kernel
theorem dX12_shuffle_2 : decode cX12_shuffle 2 = .ok (.putfield 3, 3) := by decide +kernel
theorem dX12_shuffle_5 : decode cX12_shuffle 5 = .ok (.aload_n 0, 1) := by decide +kernel
theorem dX12_shuffle_6 : decode cX12_shuffle 6 = .ok (.getfield 58, 3) := by decide +kernel
theorem dX12_shuffle_9 : decode cX12_shuffle 9 = .ok (.ifCond .eq 6, 3) := by decide +kernel
theorem dX12_shuffle_12 : decode cX12_shuffle 12 = .ok (.bipush (-9), 2) := by decide +kernel
theorem dX12_shuffle_14 : decode cX12_shuffle 14 = .ok (.ireturn, 1) := by decide +kernel
theorem dX12_shuffle_15 : decode cX12_shuffle 15 = .ok (.iconst 0, 1) := by decide +kernel
theorem dX12_shuffle_16 : decode cX12_shuffle 16 = .ok (.istore_n 3, 1) := by decide +kernel
theorem dX12_shuffle_17 : decode cX12_shuffle 17 = .ok (.iload_n 3, 1) := by decide +kernel
theorem dX12_shuffle_18 : decode cX12_shuffle 18 = .ok (.aload_n 0, 1) := by decide +kernel
theorem dX12_shuffle_19 : decode cX12_shuffle 19 = .ok (.getfield 361, 3) := by decide +kernel
theorem dX12_shuffle_22 : decode cX12_shuffle 22 = .ok (.arraylength, 1) := by decide +kernel
theorem dX12_shuffle_23 : decode cX12_shuffle 23 = .ok (.if_icmp .ge 16, 3) := by decide +kernel
theorem dX12_shuffle_26 : decode cX12_shuffle 26 = .ok (.aload_n 0, 1) := by decide +kernel
theorem dX12_shuffle_27 : decode cX12_shuffle 27 = .ok (.getfield 361, 3) := by decide +kernel
theorem dX12_shuffle_30 : decode cX12_shuffle 30 = .ok (.iload_n 3, 1) := by decide +kernel
theorem dX12_shuffle_31 : decode cX12_shuffle 31 = .ok (.iconst 0, 1) := by decide +kernel
theorem dX12_shuffle_32 : decode cX12_shuffle 32 = .ok (.iastore, 1) := by decide +kernel
theorem dX12_shuffle_33 : decode cX12_shuffle 33 = .ok (.iinc 3 1, 3) := by decide +kernel
theorem dX12_shuffle_36 : decode cX12_shuffle 36 = .ok (.goto (-19), 3) := by decide +kernel
theorem dX12_shuffle_39 : decode cX12_shuffle 39 = .ok (.iconst 0, 1) := by decide +kernel
theorem dX12_shuffle_40 : decode cX12_shuffle 40 = .ok (.istore_n 3, 1) := by decide +kernel
theorem dX12_shuffle_41 : decode cX12_shuffle 41 = .ok (.iload_n 3, 1) := by decide +kernel
theorem dX12_shuffle_42 : decode cX12_shuffle 42 = .ok (.aload_n 0, 1) := by decide +kernel
theorem dX12_shuffle_43 : decode cX12_shuffle 43 = .ok (.getfield 93, 3) := by decide +kernel
theorem dX12_shuffle_46 : decode cX12_shuffle 46 = .ok (.if_icmp .ge 33, 3) := by decide +kernel
theorem dX12_shuffle_49 : decode cX12_shuffle 49 = .ok (.aload_n 0, 1) := by decide +kernel
theorem dX12_shuffle_50 : decode cX12_shuffle 50 = .ok (.getfield 361, 3) := by decide +kernel
theorem dX12_shuffle_53 : decode cX12_shuffle 53 = .ok (.aload_n 0, 1) := by decide +kernel
theorem dX12_shuffle_54 : decode cX12_shuffle 54 = .ok (.getfield 65, 3) := by decide +kernel
theorem dX12_shuffle_57 : decode cX12_shuffle 57 = .ok (.aload_n 0, 1) := by decide +kernel
theorem dX12_shuffle_58 : decode cX12_shuffle 58 = .ok (.getfield 87, 3) := by decide +kernel
theorem dX12_shuffle_61 : decode cX12_shuffle 61 = .ok (.iload_n 3, 1) := by decide +kernel
theorem dX12_shuffle_62 : decode cX12_shuffle 62 = .ok (.iadd, 1) := by decide +kernel
theorem dX12_shuffle_63 : decode cX12_shuffle 63 = .ok (.sipush 256, 3) := by decide +kernel
theorem dX12_shuffle_66 : decode cX12_shuffle 66 = .ok (.irem, 1) := by decide +kernel
theorem dX12_shuffle_67 : decode cX12_shuffle 67 = .ok (.iaload, 1) := by decide +kernel
theorem dX12_shuffle_68 : decode cX12_shuffle 68 = .ok (.dup2, 1) := by decide +kernel
theorem dX12_shuffle_69 : decode cX12_shuffle 69 = .ok (.iaload, 1) := by decide +kernel
theorem dX12_shuffle_70 : decode cX12_shuffle 70 = .ok (.iconst 1, 1) := by decide +kernel
theorem dX12_shuffle_71 : decode cX12_shuffle 71 = .ok (.iadd, 1) := by decide +kernel
theorem dX12_shuffle_72 : decode cX12_shuffle 72 = .ok (.iastore, 1) := by decide +kernel
theorem dX12_shuffle_73 : decode cX12_shuffle 73 = .ok (.iinc 3 1, 3) := by decide +kernel
theorem dX12_shuffle_76 : decode cX12_shuffle 76 = .ok (.goto (-35), 3) := by decide +kernel
theorem dX12_shuffle_79 : decode cX12_shuffle 79 = .ok (.iconst 0, 1) := by decide +kernel
theorem dX12_shuffle_80 : decode cX12_shuffle 80 = .ok (.istore_n 3, 1) := by decide +kernel
theorem dX12_shuffle_81 : decode cX12_shuffle 81 = .ok (.iconst 0, 1) := by decide +kernel
theorem dX12_shuffle_82 : decode cX12_shuffle 82 = .ok (.istore 4, 2) := by decide +kernel
theorem dX12_shuffle_84 : decode cX12_shuffle 84 = .ok (.iload 4, 2) := by decide +kernel
theorem dX12_shuffle_86 : decode cX12_shuffle 86 = .ok (.aload_n 0, 1) := by decide +kernel
theorem dX12_shuffle_87 : decode cX12_shuffle 87 = .ok (.invokevirtual 164, 3) := by decide +kernel
theorem dX12_shuffle_90 : decode cX12_shuffle 90 = .ok (.if_icmp .ge 55, 3) := by decide +kernel
theorem dX12_shuffle_93 : decode cX12_shuffle 93 = .ok (.aload_n 0, 1) := by decide +kernel
theorem dX12_shuffle_94 : decode cX12_shuffle 94 = .ok (.getfield 361, 3) := by decide +kernel
theorem dX12_shuffle_97 : decode cX12_shuffle 97 = .ok (.iload 4, 2) := by decide +kernel
theorem dX12_shuffle_99 : decode cX12_shuffle 99 = .ok (.iaload, 1) := by decide +kernel
theorem dX12_shuffle_100 : decode cX12_shuffle 100 = .ok (.ifCond .ne 6, 3) := by decide +kernel
theorem dX12_shuffle_103 : decode cX12_shuffle 103 = .ok (.goto 36, 3) := by decide +kernel
theorem dX12_shuffle_106 : decode cX12_shuffle 106 = .ok (.aload_n 0, 1) := by decide +kernel
theorem dX12_shuffle_107 : decode cX12_shuffle 107 = .ok (.getfield 62, 3) := by decide +kernel
theorem dX12_shuffle_110 : decode cX12_shuffle 110 = .ok (.iload 4, 2) := by decide +kernel
theorem dX12_shuffle_112 : decode cX12_shuffle 112 = .ok (.lload_n 1, 1) := by decide +kernel
theorem dX12_shuffle_113 : decode cX12_shuffle 113 = .ok (.iload 4, 2) := by decide +kernel
theorem dX12_shuffle_115 : decode cX12_shuffle 115 = .ok (.bipush 54, 2) := by decide +kernel
theorem dX12_shuffle_117 : decode cX12_shuffle 117 = .ok (.irem, 1) := by decide +kernel
theorem dX12_shuffle_118 : decode cX12_shuffle 118 = .ok (.lushr, 1) := by decide +kernel
theorem dX12_shuffle_119 : decode cX12_shuffle 119 = .ok (.ldc2_w 470, 3) := by decide +kernel
theorem dX12_shuffle_122 : decode cX12_shuffle 122 = .ok (.land, 1) := by decide +kernel
theorem dX12_shuffle_123 : decode cX12_shuffle 123 = .ok (.aload_n 0, 1) := by decide +kernel
theorem dX12_shuffle_124 : decode cX12_shuffle 124 = .ok (.getfield 361, 3) := by decide +kernel
theorem dX12_shuffle_127 : decode cX12_shuffle 127 = .ok (.iload 4, 2) := by decide +kernel
theorem dX12_shuffle_129 : decode cX12_shuffle 129 = .ok (.iaload, 1) := by decide +kernel
theorem dX12_shuffle_130 : decode cX12_shuffle 130 = .ok (.iconst 1, 1) := by decide +kernel
theorem dX12_shuffle_131 : decode cX12_shuffle 131 = .ok (.iadd, 1) := by decide +kernel
theorem dX12_shuffle_132 : decode cX12_shuffle 132 = .ok (.i2l, 1) := by decide +kernel
theorem dX12_shuffle_133 : decode cX12_shuffle 133 = .ok (.lrem, 1) := by decide +kernel
theorem dX12_shuffle_134 : decode cX12_shuffle 134 = .ok (.l2i, 1) := by decide +kernel
theorem dX12_shuffle_135 : decode cX12_shuffle 135 = .ok (.iastore, 1) := by decide +kernel
theorem dX12_shuffle_136 : decode cX12_shuffle 136 = .ok (.iinc 3 1, 3) := by decide +kernel
theorem dX12_shuffle_139 : decode cX12_shuffle 139 = .ok (.iinc 4 1, 3) := by decide +kernel
theorem dX12_shuffle_142 : decode cX12_shuffle 142 = .ok (.goto (-58), 3) := by decide +kernel
theorem dX12_shuffle_145 : decode cX12_shuffle 145 = .ok (.iload_n 3, 1) := by decide +kernel
theorem dX12_shuffle_146 : decode cX12_shuffle 146 = .ok (.ireturn, 1) := by decide +kernel
set_option maxRecDepth 100000 in
set_option maxHeartbeats 1000000 in
theorem j_X12_shuffle_139 {p : Program} {l : Launch} {e : Env} {s : State} {m : MethodId} {args : Array Value} {below : List Frame} {meth : Method} {c : Code} {D : va_G} {aC : Nat → ClassId} {b0 fu : Nat} {σ0 τ : tM} {v : Int32} {rc84 : Nat → Int64 → Int32 → Int32 → tM → Option ((Int32) × tM)} (C : tCx p l s m args meth c yX12_shuffle.cls cX12_shuffle 5 (some .int) D aC b0 σ0) (htab : ∀ x ∈ c.exceptionTable.toList, False) (hin : meth.name = yX12_shuffle.name) (hrc84 : ∀ (x0 : Nat) (x1 : Int64) (x3 : Int32) (x4 : Int32) (ρ : tM), rc84 x0 x1 x3 x4 ρ = some (v, τ) → tX p l e s m args below meth c 5 1 20 D aC b0 σ0 (.inl (some (.int v))) τ 84 [(0, .ref (x0)), (1, .long (x1)), (3, .int (x3)), (4, .int (x4))] [] ρ) {x0 : Nat} {x1 : Int64} {x3 : Int32} {x4 : Int32} {σ : tM} (hm : J_X12_shuffle_139 b0 fu rc84 x0 x1 x3 x4 σ = some (v, τ)) : tX p l e s m args below meth c 5 1 20 D aC b0 σ0 (.inl (some (.int v))) τ 139 [(0, .ref (x0)), (1, .long (x1)), (3, .int (x3)), (4, .int (x4))] [] σ := by
  unfold J_X12_shuffle_139 at hm
  obtain ⟨y52, hy52⟩ : ∃ z : Int32, z = (x4) + Int32.ofInt 1 := ⟨_, rfl⟩
  replace hm := ltb_e hm hy52
  refine zx_iinc C [(4, .int (y52)), (0, .ref (x0)), (1, .long (x1)), (3, .int (x3))] dX12_shuffle_139 3 rfl hy52.symm (by decide) rfl ?_
  refine zx_goto C 84 dX12_shuffle_142 (by decide) ?_
  exact zx_lv [1, 2, 3, 0] [(0, .ref (x0)), (1, .long (x1)), (3, .int (x3)), (4, .int (y52))] rfl (hrc84 _ _ _ _ _ hm)
set_option maxRecDepth 100000 in
set_option maxHeartbeats 1000000 in
theorem l_X12_shuffle_84 {p : Program} {l : Launch} {e : Env} {s : State} {m : MethodId} {args : Array Value} {below : List Frame} {meth : Method} {c : Code} {D : va_G} {aC : Nat → ClassId} {b0 fu : Nat} {σ0 τ : tM} {v : Int32}  (C : tCx p l s m args meth c yX12_shuffle.cls cX12_shuffle 5 (some .int) D aC b0 σ0) (htab : ∀ x ∈ c.exceptionTable.toList, False) (hin : meth.name = yX12_shuffle.name)  : ∀ (n : Nat) (x0 : Nat) (x1 : Int64) (x3 : Int32) (x4 : Int32) (σ : tM), L_X12_shuffle_84 b0 fu  n x0 x1 x3 x4 σ = some (v, τ) → tX p l e s m args below meth c 5 1 20 D aC b0 σ0 (.inl (some (.int v))) τ 84 [(0, .ref (x0)), (1, .long (x1)), (3, .int (x3)), (4, .int (x4))] [] σ := by
  intro n
  induction n with
  | zero => intro x0 x1 x3 x4 σ hm; unfold L_X12_shuffle_84 at hm; cases hm
  | succ n ih =>
    intro x0 x1 x3 x4 σ hm
    unfold L_X12_shuffle_84 at hm
    obtain ⟨rc84, hrc⟩ : ∃ z, z = L_X12_shuffle_84 b0 fu  n := ⟨_, rfl⟩
    replace hm := ltb_e hm hrc
    rw [← hrc] at ih
    have hrc84 := ih
    clear ih hrc
    refine zx_iload C dX12_shuffle_84 3 rfl ?_
    refine zx_aload_n C dX12_shuffle_86 0 rfl ?_
    obtain ⟨k15, i16, hm⟩ := ckO_e hm
    obtain ⟨v17, ρ18, h19, hm⟩ := cll_e hm
    refine zx_callV (σ := σ) C [] tC_11 k15 i16 Y_X12_blocks W_6_216 W_6_218 Wp_55 (c_X12_blocks h19) (by decide) (by decide) rfl (Nat.le_of_ble_eq_true rfl) dX12_shuffle_87 rfl ?_
    refine zx_icmp_ge C 145 dX12_shuffle_90 (by decide) (fun c20 => ?_) (fun c20 => ?_)
    · replace hm := ip_e hm c20
      refine zx_iload_n C dX12_shuffle_145 2 rfl ?_
      obtain ⟨rfl, rfl⟩ := ret_e hm
      exact zx_iret C rfl rfl rfl dX12_shuffle_146
    · replace hm := in_e hm c20
      refine zx_aload_n C dX12_shuffle_93 0 rfl ?_
      obtain ⟨k21, i22, hm⟩ := ckO_e hm
      obtain ⟨a23, h24, hm⟩ := osm_e hm
      refine zx_get (j := 54) C tC_11 k21 i22 ⟨by decide, Or.inl W_7_33⟩ dX12_shuffle_94 (.ref a23) (rf_s h24) ?_
      refine zx_iload C dX12_shuffle_97 3 rfl ?_
      obtain ⟨n27, k25, i26, hm⟩ := ckR_e hm
      obtain ⟨h28, hm⟩ := ckI_e hm
      refine zx_iald C k25 i26 h28 dX12_shuffle_99 ?_
      refine zx_if_ne C 106 dX12_shuffle_100 (by decide) (fun c29 => ?_) (fun c29 => ?_)
      · replace hm := in_e hm c29
        refine zx_aload_n C dX12_shuffle_106 0 rfl ?_
        obtain ⟨a30, h31, hm⟩ := osm_e hm
        refine zx_get (j := 17) C tC_11 k21 i22 ⟨by decide, Or.inl W_6_236⟩ dX12_shuffle_107 (.ref a30) (rf_s h31) ?_
        refine zx_iload C dX12_shuffle_110 3 rfl ?_
        refine zx_lload_n C dX12_shuffle_112 1 rfl ?_
        refine zx_iload C dX12_shuffle_113 3 rfl ?_
        refine zx_bipush (v := 54) C dX12_shuffle_115 (by decide) ?_
        refine zx_irem C dX12_shuffle_117 (by decide) ?_
        refine zx_lushr C dX12_shuffle_118 ?_
        refine zx_ldc2 (v := 1023) C W_9_89 dX12_shuffle_119 ?_
        refine zx_land C dX12_shuffle_122 ?_
        refine zx_aload_n C dX12_shuffle_123 0 rfl ?_
        obtain ⟨a32, h33, hm⟩ := osm_e hm
        refine zx_get (j := 54) C tC_11 k21 i22 ⟨by decide, Or.inl W_7_33⟩ dX12_shuffle_124 (.ref a32) (rf_s h33) ?_
        refine zx_iload C dX12_shuffle_127 3 rfl ?_
        obtain ⟨n36, k34, i35, hm⟩ := ckR_e hm
        obtain ⟨h37, hm⟩ := ckI_e hm
        refine zx_iald C k34 i35 h37 dX12_shuffle_129 ?_
        refine zx_iconst (v := 1) C dX12_shuffle_130 (by decide) ?_
        refine zx_iadd C dX12_shuffle_131 ?_
        refine zx_i2l C dX12_shuffle_132 ?_
        obtain ⟨h53, hm⟩ := ckL_e hm
        refine zx_lrem C dX12_shuffle_133 h53 ?_
        refine zx_l2i C dX12_shuffle_134 ?_
        obtain ⟨n40, k38, i39, hm⟩ := ckR_e hm
        obtain ⟨h41, hm⟩ := ckI_e hm
        refine zx_iast C k38 i39 h41 dX12_shuffle_135 ?_
        refine zx_mem (fun ρ42 hρ42 => ?_)
        replace hm := ltb_e hm hρ42
        have k43 : tk ρ42 (x0) = .inl 11 := by rw [hρ42]; exact k21
        have i44 : tIn b0 ρ42 (x0) := by rw [hρ42]; exact i22
        have k45 : tk ρ42 (a23) = .inr (0, n27) := by rw [hρ42]; exact k25
        have i46 : tIn b0 ρ42 (a23) := by rw [hρ42]; exact i26
        have k47 : tk ρ42 (a32) = .inr (0, n36) := by rw [hρ42]; exact k34
        have i48 : tIn b0 ρ42 (a32) := by rw [hρ42]; exact i35
        have k49 : tk ρ42 (a30) = .inr (0, n40) := by rw [hρ42]; exact k38
        have i50 : tIn b0 ρ42 (a30) := by rw [hρ42]; exact i39
        obtain ⟨y51, hy51⟩ : ∃ z : Int32, z = (x3) + Int32.ofInt 1 := ⟨_, rfl⟩
        replace hm := ltb_e hm hy51
        refine zx_iinc C [(3, .int (y51)), (0, .ref (x0)), (1, .long (x1)), (4, .int (x4))] dX12_shuffle_136 2 rfl hy51.symm (by decide) rfl ?_
        exact zx_lv [1, 2, 0, 3] [(0, .ref (x0)), (1, .long (x1)), (3, .int (y51)), (4, .int (x4))] rfl (j_X12_shuffle_139 C htab hin hrc84   hm)
      · replace hm := ip_e hm c29
        refine zx_goto C 139 dX12_shuffle_103 (by decide) ?_
        exact zx_lv [0, 1, 2, 3] [(0, .ref (x0)), (1, .long (x1)), (3, .int (x3)), (4, .int (x4))] rfl (j_X12_shuffle_139 C htab hin hrc84   hm)
set_option maxRecDepth 100000 in
set_option maxHeartbeats 1000000 in
theorem l_X12_shuffle_41 {p : Program} {l : Launch} {e : Env} {s : State} {m : MethodId} {args : Array Value} {below : List Frame} {meth : Method} {c : Code} {D : va_G} {aC : Nat → ClassId} {b0 fu : Nat} {σ0 τ : tM} {v : Int32}  (C : tCx p l s m args meth c yX12_shuffle.cls cX12_shuffle 5 (some .int) D aC b0 σ0) (htab : ∀ x ∈ c.exceptionTable.toList, False) (hin : meth.name = yX12_shuffle.name)  : ∀ (n : Nat) (x0 : Nat) (x1 : Int64) (x3 : Int32) (σ : tM), L_X12_shuffle_41 b0 fu  n x0 x1 x3 σ = some (v, τ) → tX p l e s m args below meth c 5 1 20 D aC b0 σ0 (.inl (some (.int v))) τ 41 [(0, .ref (x0)), (1, .long (x1)), (3, .int (x3))] [] σ := by
  intro n
  induction n with
  | zero => intro x0 x1 x3 σ hm; unfold L_X12_shuffle_41 at hm; cases hm
  | succ n ih =>
    intro x0 x1 x3 σ hm
    unfold L_X12_shuffle_41 at hm
    obtain ⟨rc41, hrc⟩ : ∃ z, z = L_X12_shuffle_41 b0 fu  n := ⟨_, rfl⟩
    replace hm := ltb_e hm hrc
    rw [← hrc] at ih
    have hrc41 := ih
    clear ih hrc
    refine zx_iload_n C dX12_shuffle_41 2 rfl ?_
    refine zx_aload_n C dX12_shuffle_42 0 rfl ?_
    obtain ⟨k12, i13, hm⟩ := ckO_e hm
    refine zx_get (j := 16) C tC_11 k12 i13 ⟨by decide, Or.inl W_6_235⟩ dX12_shuffle_43 (.int (tI (σ) (x0) 16)) rfl ?_
    refine zx_icmp_ge C 79 dX12_shuffle_46 (by decide) (fun c14 => ?_) (fun c14 => ?_)
    · replace hm := ip_e hm c14
      refine zx_iconst (v := 0) C dX12_shuffle_79 (by decide) ?_
      refine zx_istore_n C [(3, .int (0)), (0, .ref (x0)), (1, .long (x1))] dX12_shuffle_80 rfl (by decide) rfl ?_
      refine zx_iconst (v := 0) C dX12_shuffle_81 (by decide) ?_
      refine zx_istore C [(4, .int (0)), (3, .int (0)), (0, .ref (x0)), (1, .long (x1))] dX12_shuffle_82 (by decide) rfl ?_
      exact zx_lv [2, 3, 1, 0] [(0, .ref (x0)), (1, .long (x1)), (3, .int (0)), (4, .int (0))] rfl (l_X12_shuffle_84 C htab hin  _ _ _ _ _ _ hm)
    · replace hm := in_e hm c14
      refine zx_aload_n C dX12_shuffle_49 0 rfl ?_
      obtain ⟨a55, h56, hm⟩ := osm_e hm
      refine zx_get (j := 54) C tC_11 k12 i13 ⟨by decide, Or.inl W_7_33⟩ dX12_shuffle_50 (.ref a55) (rf_s h56) ?_
      refine zx_aload_n C dX12_shuffle_53 0 rfl ?_
      obtain ⟨a57, h58, hm⟩ := osm_e hm
      refine zx_get (j := 11) C tC_11 k12 i13 ⟨by decide, Or.inl W_6_230⟩ dX12_shuffle_54 (.ref a57) (rf_s h58) ?_
      refine zx_aload_n C dX12_shuffle_57 0 rfl ?_
      refine zx_get (j := 15) C tC_11 k12 i13 ⟨by decide, Or.inl W_6_234⟩ dX12_shuffle_58 (.int (tI (σ) (x0) 15)) rfl ?_
      refine zx_iload_n C dX12_shuffle_61 2 rfl ?_
      refine zx_iadd C dX12_shuffle_62 ?_
      refine zx_sipush (v := 256) C dX12_shuffle_63 (by decide) ?_
      refine zx_irem C dX12_shuffle_66 (by decide) ?_
      obtain ⟨n61, k59, i60, hm⟩ := ckR_e hm
      obtain ⟨h62, hm⟩ := ckI_e hm
      refine zx_iald C k59 i60 h62 dX12_shuffle_67 ?_
      refine zx_dup2_11 C dX12_shuffle_68 rfl rfl ?_
      obtain ⟨n65, k63, i64, hm⟩ := ckR_e hm
      obtain ⟨h66, hm⟩ := ckI_e hm
      refine zx_iald C k63 i64 h66 dX12_shuffle_69 ?_
      refine zx_iconst (v := 1) C dX12_shuffle_70 (by decide) ?_
      refine zx_iadd C dX12_shuffle_71 ?_
      obtain ⟨h67, hm⟩ := ckI_e hm
      refine zx_iast C k63 i64 h67 dX12_shuffle_72 ?_
      refine zx_mem (fun ρ68 hρ68 => ?_)
      replace hm := ltb_e hm hρ68
      have k69 : tk ρ68 (x0) = .inl 11 := by rw [hρ68]; exact k12
      have i70 : tIn b0 ρ68 (x0) := by rw [hρ68]; exact i13
      have k71 : tk ρ68 (a57) = .inr (0, n61) := by rw [hρ68]; exact k59
      have i72 : tIn b0 ρ68 (a57) := by rw [hρ68]; exact i60
      have k73 : tk ρ68 (a55) = .inr (0, n65) := by rw [hρ68]; exact k63
      have i74 : tIn b0 ρ68 (a55) := by rw [hρ68]; exact i64
      obtain ⟨y75, hy75⟩ : ∃ z : Int32, z = (x3) + Int32.ofInt 1 := ⟨_, rfl⟩
      replace hm := ltb_e hm hy75
      refine zx_iinc C [(3, .int (y75)), (0, .ref (x0)), (1, .long (x1))] dX12_shuffle_73 2 rfl hy75.symm (by decide) rfl ?_
      refine zx_goto C 41 dX12_shuffle_76 (by decide) ?_
      exact zx_lv [1, 2, 0] [(0, .ref (x0)), (1, .long (x1)), (3, .int (y75))] rfl (hrc41 _ _ _ _ hm)
set_option maxRecDepth 100000 in
set_option maxHeartbeats 1000000 in
theorem l_X12_shuffle_17 {p : Program} {l : Launch} {e : Env} {s : State} {m : MethodId} {args : Array Value} {below : List Frame} {meth : Method} {c : Code} {D : va_G} {aC : Nat → ClassId} {b0 fu : Nat} {σ0 τ : tM} {v : Int32}  (C : tCx p l s m args meth c yX12_shuffle.cls cX12_shuffle 5 (some .int) D aC b0 σ0) (htab : ∀ x ∈ c.exceptionTable.toList, False) (hin : meth.name = yX12_shuffle.name)  : ∀ (n : Nat) (x0 : Nat) (x1 : Int64) (x3 : Int32) (σ : tM), L_X12_shuffle_17 b0 fu  n x0 x1 x3 σ = some (v, τ) → tX p l e s m args below meth c 5 1 20 D aC b0 σ0 (.inl (some (.int v))) τ 17 [(0, .ref (x0)), (1, .long (x1)), (3, .int (x3))] [] σ := by
  intro n
  induction n with
  | zero => intro x0 x1 x3 σ hm; unfold L_X12_shuffle_17 at hm; cases hm
  | succ n ih =>
    intro x0 x1 x3 σ hm
    unfold L_X12_shuffle_17 at hm
    obtain ⟨rc17, hrc⟩ : ∃ z, z = L_X12_shuffle_17 b0 fu  n := ⟨_, rfl⟩
    replace hm := ltb_e hm hrc
    rw [← hrc] at ih
    have hrc17 := ih
    clear ih hrc
    refine zx_iload_n C dX12_shuffle_17 2 rfl ?_
    refine zx_aload_n C dX12_shuffle_18 0 rfl ?_
    obtain ⟨k4, i5, hm⟩ := ckO_e hm
    obtain ⟨a6, h7, hm⟩ := osm_e hm
    refine zx_get (j := 54) C tC_11 k4 i5 ⟨by decide, Or.inl W_7_33⟩ dX12_shuffle_19 (.ref a6) (rf_s h7) ?_
    obtain ⟨n10, k8, i9, hm⟩ := ckR_e hm
    refine zx_alen C k8 (by decide) i9 dX12_shuffle_22 ?_
    refine zx_icmp_ge C 39 dX12_shuffle_23 (by decide) (fun c11 => ?_) (fun c11 => ?_)
    · replace hm := ip_e hm c11
      refine zx_iconst (v := 0) C dX12_shuffle_39 (by decide) ?_
      refine zx_istore_n C [(3, .int (0)), (0, .ref (x0)), (1, .long (x1))] dX12_shuffle_40 rfl (by decide) rfl ?_
      exact zx_lv [1, 2, 0] [(0, .ref (x0)), (1, .long (x1)), (3, .int (0))] rfl (l_X12_shuffle_41 C htab hin  _ _ _ _ _ hm)
    · replace hm := in_e hm c11
      refine zx_aload_n C dX12_shuffle_26 0 rfl ?_
      obtain ⟨a77, h78, hm⟩ := osm_e hm
      refine zx_get (j := 54) C tC_11 k4 i5 ⟨by decide, Or.inl W_7_33⟩ dX12_shuffle_27 (.ref a77) (rf_s h78) ?_
      refine zx_iload_n C dX12_shuffle_30 2 rfl ?_
      refine zx_iconst (v := 0) C dX12_shuffle_31 (by decide) ?_
      obtain ⟨n81, k79, i80, hm⟩ := ckR_e hm
      obtain ⟨h82, hm⟩ := ckI_e hm
      refine zx_iast C k79 i80 h82 dX12_shuffle_32 ?_
      obtain ⟨y83, hy83⟩ : ∃ z : Int32, z = (x3) + Int32.ofInt 1 := ⟨_, rfl⟩
      replace hm := ltb_e hm hy83
      refine zx_iinc C [(3, .int (y83)), (0, .ref (x0)), (1, .long (x1))] dX12_shuffle_33 2 rfl hy83.symm (by decide) rfl ?_
      refine zx_goto C 17 dX12_shuffle_36 (by decide) ?_
      exact zx_lv [1, 2, 0] [(0, .ref (x0)), (1, .long (x1)), (3, .int (y83))] rfl (hrc17 _ _ _ _ hm)
set_option maxRecDepth 100000 in
set_option maxHeartbeats 1000000 in
theorem c_X12_shuffle {l : Launch} {D : va_G} {aC : Nat → ClassId} {b0 fu : Nat} {a0 : Nat} {p0 : Int64} {σ τ : tM} {v : Int32} (hm : m_X12_shuffle b0 fu a0 p0 σ = some (v, τ)) : tMt l D aC b0 yX12_shuffle (Cond.code yX12_shuffle cX12_shuffle 5 (some .int)) 1 20 [.ref (a0), .long (p0)] σ (.inl (some (.int v))) τ := by
  unfold m_X12_shuffle at hm
  obtain ⟨hg, hm⟩ := grw_e hm
  refine tMt_of (n := 0) rfl (Nat.le_of_ble_eq_true rfl) hg ?_
  intro p e s m below meth c C htab hin
  refine zx_lv [0, 1] [(0, .ref (a0)), (1, .long (p0))] rfl ?_
  refine zx_aload_n C dX12_shuffle_0 0 rfl ?_
  refine zx_iconst (v := 0) C dX12_shuffle_1 (by decide) ?_
  obtain ⟨k1, i2, hm⟩ := ckO_e hm
  refine zx_put (j := 0) (ρ := sI (σ) (a0) 0 (0)) C tC_11 k1 i2 ⟨by decide, Or.inl W_6_220⟩ rfl rfl rfl (sI_ok (fun _ => rfl)) dX12_shuffle_2 ?_
  refine zx_aload_n C dX12_shuffle_5 0 rfl ?_
  refine zx_get (j := 18) C tC_11 k1 i2 ⟨by decide, Or.inl W_6_237⟩ dX12_shuffle_6 (.int (tI (sI (σ) (a0) 0 (0)) (a0) 18)) rfl ?_
  refine zx_if_eq C 15 dX12_shuffle_9 (by decide) (fun c3 => ?_) (fun c3 => ?_)
  · replace hm := ip_e hm c3
    refine zx_iconst (v := 0) C dX12_shuffle_15 (by decide) ?_
    refine zx_istore_n C [(3, .int (0)), (0, .ref (a0)), (1, .long (p0))] dX12_shuffle_16 rfl (by decide) rfl ?_
    exact zx_lv [1, 2, 0] [(0, .ref (a0)), (1, .long (p0)), (3, .int (0))] rfl (l_X12_shuffle_17 C htab hin  _ _ _ _ _ hm)
  · replace hm := in_e hm c3
    refine zx_bipush (v := (-9)) C dX12_shuffle_12 (by decide) ?_
    obtain ⟨rfl, rfl⟩ := ret_e hm
    exact zx_iret C rfl rfl rfl dX12_shuffle_14
abbrev cX12_dirtyBlocks : ByteArray := prog_13_method_113_code
def yX12_dirtyBlocks : MethodName := ⟨"SyncTreeModel", "dirtyBlocks", "()I"⟩
theorem Y_X12_dirtyBlocks : tY yX12_dirtyBlocks cX12_dirtyBlocks 3 (some .int) 0 := ⟨W_9_125, W_1_14, ⟨by decide +kernel, by decide +kernel⟩, by decide +kernel⟩
theorem dX12_dirtyBlocks_0 : decode cX12_dirtyBlocks 0 = .ok (.iconst 0, 1) := by decide +kernel
theorem dX12_dirtyBlocks_1 : decode cX12_dirtyBlocks 1 = .ok (.istore_n 1, 1) := by decide +kernel
theorem dX12_dirtyBlocks_2 : decode cX12_dirtyBlocks 2 = .ok (.iconst 0, 1) := by decide +kernel
theorem dX12_dirtyBlocks_3 : decode cX12_dirtyBlocks 3 = .ok (.istore_n 2, 1) := by decide +kernel
theorem dX12_dirtyBlocks_4 : decode cX12_dirtyBlocks 4 = .ok (.iload_n 2, 1) := by decide +kernel
theorem dX12_dirtyBlocks_5 : decode cX12_dirtyBlocks 5 = .ok (.aload_n 0, 1) := by decide +kernel
theorem dX12_dirtyBlocks_6 : decode cX12_dirtyBlocks 6 = .ok (.getfield 41, 3) := by decide +kernel
theorem dX12_dirtyBlocks_9 : decode cX12_dirtyBlocks 9 = .ok (.if_icmp .ge 26, 3) := by decide +kernel
theorem dX12_dirtyBlocks_12 : decode cX12_dirtyBlocks 12 = .ok (.iload_n 1, 1) := by decide +kernel
theorem dX12_dirtyBlocks_13 : decode cX12_dirtyBlocks 13 = .ok (.aload_n 0, 1) := by decide +kernel
theorem dX12_dirtyBlocks_14 : decode cX12_dirtyBlocks 14 = .ok (.getfield 244, 3) := by decide +kernel
theorem dX12_dirtyBlocks_17 : decode cX12_dirtyBlocks 17 = .ok (.iload_n 2, 1) := by decide +kernel
theorem dX12_dirtyBlocks_18 : decode cX12_dirtyBlocks 18 = .ok (.baload, 1) := by decide +kernel
theorem dX12_dirtyBlocks_19 : decode cX12_dirtyBlocks 19 = .ok (.ifCond .eq 7, 3) := by decide +kernel
theorem dX12_dirtyBlocks_22 : decode cX12_dirtyBlocks 22 = .ok (.iconst 1, 1) := by decide +kernel
theorem dX12_dirtyBlocks_23 : decode cX12_dirtyBlocks 23 = .ok (.goto 4, 3) := by decide +kernel
theorem dX12_dirtyBlocks_26 : decode cX12_dirtyBlocks 26 = .ok (.iconst 0, 1) := by decide +kernel
theorem dX12_dirtyBlocks_27 : decode cX12_dirtyBlocks 27 = .ok (.iadd, 1) := by decide +kernel
theorem dX12_dirtyBlocks_28 : decode cX12_dirtyBlocks 28 = .ok (.istore_n 1, 1) := by decide +kernel
theorem dX12_dirtyBlocks_29 : decode cX12_dirtyBlocks 29 = .ok (.iinc 2 1, 3) := by decide +kernel
theorem dX12_dirtyBlocks_32 : decode cX12_dirtyBlocks 32 = .ok (.goto (-28), 3) := by decide +kernel
theorem dX12_dirtyBlocks_35 : decode cX12_dirtyBlocks 35 = .ok (.iload_n 1, 1) := by decide +kernel
theorem dX12_dirtyBlocks_36 : decode cX12_dirtyBlocks 36 = .ok (.ireturn, 1) := by decide +kernel
set_option maxRecDepth 100000 in
set_option maxHeartbeats 1000000 in
theorem j_X12_dirtyBlocks_27 {p : Program} {l : Launch} {e : Env} {s : State} {m : MethodId} {args : Array Value} {below : List Frame} {meth : Method} {c : Code} {D : va_G} {aC : Nat → ClassId} {b0 fu : Nat} {σ0 τ : tM} {v : Int32} {rc4 : Nat → Int32 → Int32 → tM → Option ((Int32) × tM)} (C : tCx p l s m args meth c yX12_dirtyBlocks.cls cX12_dirtyBlocks 3 (some .int) D aC b0 σ0) (htab : ∀ x ∈ c.exceptionTable.toList, False) (hin : meth.name = yX12_dirtyBlocks.name) (hrc4 : ∀ (x0 : Nat) (x1 : Int32) (x2 : Int32) (ρ : tM), rc4 x0 x1 x2 ρ = some (v, τ) → tX p l e s m args below meth c 3 0 0 D aC b0 σ0 (.inl (some (.int v))) τ 4 [(0, .ref (x0)), (1, .int (x1)), (2, .int (x2))] [] ρ) {x0 : Nat} {x2 : Int32} {s0 : Int32} {s1 : Int32} {σ : tM} (hm : J_X12_dirtyBlocks_27 b0 fu rc4 x0 x2 s0 s1 σ = some (v, τ)) : tX p l e s m args below meth c 3 0 0 D aC b0 σ0 (.inl (some (.int v))) τ 27 [(0, .ref (x0)), (2, .int (x2))] [.int (s1), .int (s0)] σ := by
  unfold J_X12_dirtyBlocks_27 at hm
  refine zx_iadd C dX12_dirtyBlocks_27 ?_
  refine zx_topi (fun y11 hy11 => ?_)
  replace hm := ltb_e hm hy11
  refine zx_istore_n C [(1, .int (y11)), (0, .ref (x0)), (2, .int (x2))] dX12_dirtyBlocks_28 rfl (by decide) rfl ?_
  obtain ⟨y12, hy12⟩ : ∃ z : Int32, z = (x2) + Int32.ofInt 1 := ⟨_, rfl⟩
  replace hm := ltb_e hm hy12
  refine zx_iinc C [(2, .int (y12)), (1, .int (y11)), (0, .ref (x0))] dX12_dirtyBlocks_29 2 rfl hy12.symm (by decide) rfl ?_
  refine zx_goto C 4 dX12_dirtyBlocks_32 (by decide) ?_
  exact zx_lv [2, 1, 0] [(0, .ref (x0)), (1, .int (y11)), (2, .int (y12))] rfl (hrc4 _ _ _ _ hm)
set_option maxRecDepth 100000 in
set_option maxHeartbeats 1000000 in
theorem l_X12_dirtyBlocks_4 {p : Program} {l : Launch} {e : Env} {s : State} {m : MethodId} {args : Array Value} {below : List Frame} {meth : Method} {c : Code} {D : va_G} {aC : Nat → ClassId} {b0 fu : Nat} {σ0 τ : tM} {v : Int32}  (C : tCx p l s m args meth c yX12_dirtyBlocks.cls cX12_dirtyBlocks 3 (some .int) D aC b0 σ0) (htab : ∀ x ∈ c.exceptionTable.toList, False) (hin : meth.name = yX12_dirtyBlocks.name)  : ∀ (n : Nat) (x0 : Nat) (x1 : Int32) (x2 : Int32) (σ : tM), L_X12_dirtyBlocks_4 b0 fu  n x0 x1 x2 σ = some (v, τ) → tX p l e s m args below meth c 3 0 0 D aC b0 σ0 (.inl (some (.int v))) τ 4 [(0, .ref (x0)), (1, .int (x1)), (2, .int (x2))] [] σ := by
  intro n
  induction n with
  | zero => intro x0 x1 x2 σ hm; unfold L_X12_dirtyBlocks_4 at hm; cases hm
  | succ n ih =>
    intro x0 x1 x2 σ hm
    unfold L_X12_dirtyBlocks_4 at hm
    obtain ⟨rc4, hrc⟩ : ∃ z, z = L_X12_dirtyBlocks_4 b0 fu  n := ⟨_, rfl⟩
    replace hm := ltb_e hm hrc
    rw [← hrc] at ih
    have hrc4 := ih
    clear ih hrc
    refine zx_iload_n C dX12_dirtyBlocks_4 2 rfl ?_
    refine zx_aload_n C dX12_dirtyBlocks_5 0 rfl ?_
    obtain ⟨k1, i2, hm⟩ := ckO_e hm
    refine zx_get (j := 7) C tC_11 k1 i2 ⟨by decide, Or.inl W_6_226⟩ dX12_dirtyBlocks_6 (.int (tI (σ) (x0) 7)) rfl ?_
    refine zx_icmp_ge C 35 dX12_dirtyBlocks_9 (by decide) (fun c3 => ?_) (fun c3 => ?_)
    · replace hm := ip_e hm c3
      refine zx_iload_n C dX12_dirtyBlocks_35 1 rfl ?_
      obtain ⟨rfl, rfl⟩ := ret_e hm
      exact zx_iret C rfl rfl rfl dX12_dirtyBlocks_36
    · replace hm := in_e hm c3
      refine zx_iload_n C dX12_dirtyBlocks_12 1 rfl ?_
      refine zx_aload_n C dX12_dirtyBlocks_13 0 rfl ?_
      obtain ⟨a4, h5, hm⟩ := osm_e hm
      refine zx_get (j := 23) C tC_11 k1 i2 ⟨by decide, Or.inl W_7_2⟩ dX12_dirtyBlocks_14 (.ref a4) (rf_s h5) ?_
      refine zx_iload_n C dX12_dirtyBlocks_17 2 rfl ?_
      obtain ⟨n8, k6, i7, hm⟩ := ckR_e hm
      obtain ⟨h9, hm⟩ := ckI_e hm
      refine zx_zald C k6 i7 h9 dX12_dirtyBlocks_18 ?_
      refine zx_if_eq C 26 dX12_dirtyBlocks_19 (by decide) (fun c10 => ?_) (fun c10 => ?_)
      · replace hm := ip_e hm c10
        refine zx_iconst (v := 0) C dX12_dirtyBlocks_26 (by decide) ?_
        exact zx_lv [0, 2] [(0, .ref (x0)), (2, .int (x2))] rfl (j_X12_dirtyBlocks_27 C htab hin hrc4   hm)
      · replace hm := in_e hm c10
        refine zx_iconst (v := 1) C dX12_dirtyBlocks_22 (by decide) ?_
        refine zx_goto C 27 dX12_dirtyBlocks_23 (by decide) ?_
        exact zx_lv [0, 2] [(0, .ref (x0)), (2, .int (x2))] rfl (j_X12_dirtyBlocks_27 C htab hin hrc4   hm)
set_option maxRecDepth 100000 in
set_option maxHeartbeats 1000000 in
theorem c_X12_dirtyBlocks {l : Launch} {D : va_G} {aC : Nat → ClassId} {b0 fu : Nat} {a0 : Nat} {σ τ : tM} {v : Int32} (hm : m_X12_dirtyBlocks b0 fu a0 σ = some (v, τ)) : tMt l D aC b0 yX12_dirtyBlocks (Cond.code yX12_dirtyBlocks cX12_dirtyBlocks 3 (some .int)) 0 0 [.ref (a0)] σ (.inl (some (.int v))) τ := by
  unfold m_X12_dirtyBlocks at hm
  obtain ⟨hg, hm⟩ := grw_e hm
  refine tMt_of (n := 0) rfl (Nat.le_of_ble_eq_true rfl) hg ?_
  intro p e s m below meth c C htab hin
  refine zx_lv [0] [(0, .ref (a0))] rfl ?_
  refine zx_iconst (v := 0) C dX12_dirtyBlocks_0 (by decide) ?_
  refine zx_istore_n C [(1, .int (0)), (0, .ref (a0))] dX12_dirtyBlocks_1 rfl (by decide) rfl ?_
  refine zx_iconst (v := 0) C dX12_dirtyBlocks_2 (by decide) ?_
  refine zx_istore_n C [(2, .int (0)), (1, .int (0)), (0, .ref (a0))] dX12_dirtyBlocks_3 rfl (by decide) rfl ?_
  exact zx_lv [2, 1, 0] [(0, .ref (a0)), (1, .int (0)), (2, .int (0))] rfl (l_X12_dirtyBlocks_4 C htab hin  _ _ _ _ _ hm)
abbrev cX12_retiredBlocks : ByteArray := prog_13_method_114_code
def yX12_retiredBlocks : MethodName := ⟨"SyncTreeModel", "retiredBlocks", "()I"⟩
theorem Y_X12_retiredBlocks : tY yX12_retiredBlocks cX12_retiredBlocks 3 (some .int) 0 := ⟨W_9_121, W_1_14, ⟨by decide +kernel, by decide +kernel⟩, by decide +kernel⟩
theorem dX12_retiredBlocks_0 : decode cX12_retiredBlocks 0 = .ok (.iconst 0, 1) := by decide +kernel
theorem dX12_retiredBlocks_1 : decode cX12_retiredBlocks 1 = .ok (.istore_n 1, 1) := by decide +kernel
theorem dX12_retiredBlocks_2 : decode cX12_retiredBlocks 2 = .ok (.iconst 0, 1) := by decide +kernel
theorem dX12_retiredBlocks_3 : decode cX12_retiredBlocks 3 = .ok (.istore_n 2, 1) := by decide +kernel
theorem dX12_retiredBlocks_4 : decode cX12_retiredBlocks 4 = .ok (.iload_n 2, 1) := by decide +kernel
theorem dX12_retiredBlocks_5 : decode cX12_retiredBlocks 5 = .ok (.aload_n 0, 1) := by decide +kernel
theorem dX12_retiredBlocks_6 : decode cX12_retiredBlocks 6 = .ok (.getfield 41, 3) := by decide +kernel
theorem dX12_retiredBlocks_9 : decode cX12_retiredBlocks 9 = .ok (.if_icmp .ge 26, 3) := by decide +kernel
theorem dX12_retiredBlocks_12 : decode cX12_retiredBlocks 12 = .ok (.iload_n 1, 1) := by decide +kernel
theorem dX12_retiredBlocks_13 : decode cX12_retiredBlocks 13 = .ok (.aload_n 0, 1) := by decide +kernel
theorem dX12_retiredBlocks_14 : decode cX12_retiredBlocks 14 = .ok (.getfield 190, 3) := by decide +kernel
theorem dX12_retiredBlocks_17 : decode cX12_retiredBlocks 17 = .ok (.iload_n 2, 1) := by decide +kernel
theorem dX12_retiredBlocks_18 : decode cX12_retiredBlocks 18 = .ok (.iaload, 1) := by decide +kernel
theorem dX12_retiredBlocks_19 : decode cX12_retiredBlocks 19 = .ok (.ifCond .le 7, 3) := by decide +kernel
theorem dX12_retiredBlocks_22 : decode cX12_retiredBlocks 22 = .ok (.iconst 1, 1) := by decide +kernel
theorem dX12_retiredBlocks_23 : decode cX12_retiredBlocks 23 = .ok (.goto 4, 3) := by decide +kernel
theorem dX12_retiredBlocks_26 : decode cX12_retiredBlocks 26 = .ok (.iconst 0, 1) := by decide +kernel
theorem dX12_retiredBlocks_27 : decode cX12_retiredBlocks 27 = .ok (.iadd, 1) := by decide +kernel
theorem dX12_retiredBlocks_28 : decode cX12_retiredBlocks 28 = .ok (.istore_n 1, 1) := by decide +kernel
theorem dX12_retiredBlocks_29 : decode cX12_retiredBlocks 29 = .ok (.iinc 2 1, 3) := by decide +kernel
theorem dX12_retiredBlocks_32 : decode cX12_retiredBlocks 32 = .ok (.goto (-28), 3) := by decide +kernel
theorem dX12_retiredBlocks_35 : decode cX12_retiredBlocks 35 = .ok (.iload_n 1, 1) := by decide +kernel
theorem dX12_retiredBlocks_36 : decode cX12_retiredBlocks 36 = .ok (.ireturn, 1) := by decide +kernel
set_option maxRecDepth 100000 in
set_option maxHeartbeats 1000000 in
theorem j_X12_retiredBlocks_27 {p : Program} {l : Launch} {e : Env} {s : State} {m : MethodId} {args : Array Value} {below : List Frame} {meth : Method} {c : Code} {D : va_G} {aC : Nat → ClassId} {b0 fu : Nat} {σ0 τ : tM} {v : Int32} {rc4 : Nat → Int32 → Int32 → tM → Option ((Int32) × tM)} (C : tCx p l s m args meth c yX12_retiredBlocks.cls cX12_retiredBlocks 3 (some .int) D aC b0 σ0) (htab : ∀ x ∈ c.exceptionTable.toList, False) (hin : meth.name = yX12_retiredBlocks.name) (hrc4 : ∀ (x0 : Nat) (x1 : Int32) (x2 : Int32) (ρ : tM), rc4 x0 x1 x2 ρ = some (v, τ) → tX p l e s m args below meth c 3 0 0 D aC b0 σ0 (.inl (some (.int v))) τ 4 [(0, .ref (x0)), (1, .int (x1)), (2, .int (x2))] [] ρ) {x0 : Nat} {x2 : Int32} {s0 : Int32} {s1 : Int32} {σ : tM} (hm : J_X12_retiredBlocks_27 b0 fu rc4 x0 x2 s0 s1 σ = some (v, τ)) : tX p l e s m args below meth c 3 0 0 D aC b0 σ0 (.inl (some (.int v))) τ 27 [(0, .ref (x0)), (2, .int (x2))] [.int (s1), .int (s0)] σ := by
  unfold J_X12_retiredBlocks_27 at hm
  refine zx_iadd C dX12_retiredBlocks_27 ?_
  refine zx_topi (fun y11 hy11 => ?_)
  replace hm := ltb_e hm hy11
  refine zx_istore_n C [(1, .int (y11)), (0, .ref (x0)), (2, .int (x2))] dX12_retiredBlocks_28 rfl (by decide) rfl ?_
  obtain ⟨y12, hy12⟩ : ∃ z : Int32, z = (x2) + Int32.ofInt 1 := ⟨_, rfl⟩
  replace hm := ltb_e hm hy12
  refine zx_iinc C [(2, .int (y12)), (1, .int (y11)), (0, .ref (x0))] dX12_retiredBlocks_29 2 rfl hy12.symm (by decide) rfl ?_
  refine zx_goto C 4 dX12_retiredBlocks_32 (by decide) ?_
  exact zx_lv [2, 1, 0] [(0, .ref (x0)), (1, .int (y11)), (2, .int (y12))] rfl (hrc4 _ _ _ _ hm)
set_option maxRecDepth 100000 in
set_option maxHeartbeats 1000000 in
theorem l_X12_retiredBlocks_4 {p : Program} {l : Launch} {e : Env} {s : State} {m : MethodId} {args : Array Value} {below : List Frame} {meth : Method} {c : Code} {D : va_G} {aC : Nat → ClassId} {b0 fu : Nat} {σ0 τ : tM} {v : Int32}  (C : tCx p l s m args meth c yX12_retiredBlocks.cls cX12_retiredBlocks 3 (some .int) D aC b0 σ0) (htab : ∀ x ∈ c.exceptionTable.toList, False) (hin : meth.name = yX12_retiredBlocks.name)  : ∀ (n : Nat) (x0 : Nat) (x1 : Int32) (x2 : Int32) (σ : tM), L_X12_retiredBlocks_4 b0 fu  n x0 x1 x2 σ = some (v, τ) → tX p l e s m args below meth c 3 0 0 D aC b0 σ0 (.inl (some (.int v))) τ 4 [(0, .ref (x0)), (1, .int (x1)), (2, .int (x2))] [] σ := by
  intro n
  induction n with
  | zero => intro x0 x1 x2 σ hm; unfold L_X12_retiredBlocks_4 at hm; cases hm
  | succ n ih =>
    intro x0 x1 x2 σ hm
    unfold L_X12_retiredBlocks_4 at hm
    obtain ⟨rc4, hrc⟩ : ∃ z, z = L_X12_retiredBlocks_4 b0 fu  n := ⟨_, rfl⟩
    replace hm := ltb_e hm hrc
    rw [← hrc] at ih
    have hrc4 := ih
    clear ih hrc
    refine zx_iload_n C dX12_retiredBlocks_4 2 rfl ?_
    refine zx_aload_n C dX12_retiredBlocks_5 0 rfl ?_
    obtain ⟨k1, i2, hm⟩ := ckO_e hm
    refine zx_get (j := 7) C tC_11 k1 i2 ⟨by decide, Or.inl W_6_226⟩ dX12_retiredBlocks_6 (.int (tI (σ) (x0) 7)) rfl ?_
    refine zx_icmp_ge C 35 dX12_retiredBlocks_9 (by decide) (fun c3 => ?_) (fun c3 => ?_)
    · replace hm := ip_e hm c3
      refine zx_iload_n C dX12_retiredBlocks_35 1 rfl ?_
      obtain ⟨rfl, rfl⟩ := ret_e hm
      exact zx_iret C rfl rfl rfl dX12_retiredBlocks_36
    · replace hm := in_e hm c3
      refine zx_iload_n C dX12_retiredBlocks_12 1 rfl ?_
      refine zx_aload_n C dX12_retiredBlocks_13 0 rfl ?_
      obtain ⟨a4, h5, hm⟩ := osm_e hm
      refine zx_get (j := 24) C tC_11 k1 i2 ⟨by decide, Or.inl W_7_3⟩ dX12_retiredBlocks_14 (.ref a4) (rf_s h5) ?_
      refine zx_iload_n C dX12_retiredBlocks_17 2 rfl ?_
      obtain ⟨n8, k6, i7, hm⟩ := ckR_e hm
      obtain ⟨h9, hm⟩ := ckI_e hm
      refine zx_iald C k6 i7 h9 dX12_retiredBlocks_18 ?_
      refine zx_if_le C 26 dX12_retiredBlocks_19 (by decide) (fun c10 => ?_) (fun c10 => ?_)
      · replace hm := ip_e hm c10
        refine zx_iconst (v := 0) C dX12_retiredBlocks_26 (by decide) ?_
        exact zx_lv [0, 2] [(0, .ref (x0)), (2, .int (x2))] rfl (j_X12_retiredBlocks_27 C htab hin hrc4   hm)
      · replace hm := in_e hm c10
        refine zx_iconst (v := 1) C dX12_retiredBlocks_22 (by decide) ?_
        refine zx_goto C 27 dX12_retiredBlocks_23 (by decide) ?_
        exact zx_lv [0, 2] [(0, .ref (x0)), (2, .int (x2))] rfl (j_X12_retiredBlocks_27 C htab hin hrc4   hm)
set_option maxRecDepth 100000 in
set_option maxHeartbeats 1000000 in
theorem c_X12_retiredBlocks {l : Launch} {D : va_G} {aC : Nat → ClassId} {b0 fu : Nat} {a0 : Nat} {σ τ : tM} {v : Int32} (hm : m_X12_retiredBlocks b0 fu a0 σ = some (v, τ)) : tMt l D aC b0 yX12_retiredBlocks (Cond.code yX12_retiredBlocks cX12_retiredBlocks 3 (some .int)) 0 0 [.ref (a0)] σ (.inl (some (.int v))) τ := by
  unfold m_X12_retiredBlocks at hm
  obtain ⟨hg, hm⟩ := grw_e hm
  refine tMt_of (n := 0) rfl (Nat.le_of_ble_eq_true rfl) hg ?_
  intro p e s m below meth c C htab hin
  refine zx_lv [0] [(0, .ref (a0))] rfl ?_
  refine zx_iconst (v := 0) C dX12_retiredBlocks_0 (by decide) ?_
  refine zx_istore_n C [(1, .int (0)), (0, .ref (a0))] dX12_retiredBlocks_1 rfl (by decide) rfl ?_
  refine zx_iconst (v := 0) C dX12_retiredBlocks_2 (by decide) ?_
  refine zx_istore_n C [(2, .int (0)), (1, .int (0)), (0, .ref (a0))] dX12_retiredBlocks_3 rfl (by decide) rfl ?_
  exact zx_lv [2, 1, 0] [(0, .ref (a0)), (1, .int (0)), (2, .int (0))] rfl (l_X12_retiredBlocks_4 C htab hin  _ _ _ _ _ hm)
abbrev cX12_freeNodes : ByteArray := prog_13_method_115_code
def yX12_freeNodes : MethodName := ⟨"SyncTreeModel", "freeNodes", "()I"⟩
theorem Y_X12_freeNodes : tY yX12_freeNodes cX12_freeNodes 3 (some .int) 0 := ⟨W_9_129, W_1_14, ⟨by decide +kernel, by decide +kernel⟩, by decide +kernel⟩
theorem dX12_freeNodes_0 : decode cX12_freeNodes 0 = .ok (.iconst 0, 1) := by decide +kernel
theorem dX12_freeNodes_1 : decode cX12_freeNodes 1 = .ok (.istore_n 1, 1) := by decide +kernel
theorem dX12_freeNodes_2 : decode cX12_freeNodes 2 = .ok (.iconst 0, 1) := by decide +kernel
theorem dX12_freeNodes_3 : decode cX12_freeNodes 3 = .ok (.istore_n 2, 1) := by decide +kernel
theorem dX12_freeNodes_4 : decode cX12_freeNodes 4 = .ok (.iload_n 2, 1) := by decide +kernel
theorem dX12_freeNodes_5 : decode cX12_freeNodes 5 = .ok (.bipush 64, 2) := by decide +kernel
theorem dX12_freeNodes_7 : decode cX12_freeNodes 7 = .ok (.if_icmp .ge 26, 3) := by decide +kernel
theorem dX12_freeNodes_10 : decode cX12_freeNodes 10 = .ok (.iload_n 1, 1) := by decide +kernel
theorem dX12_freeNodes_11 : decode cX12_freeNodes 11 = .ok (.aload_n 0, 1) := by decide +kernel
theorem dX12_freeNodes_12 : decode cX12_freeNodes 12 = .ok (.iload_n 2, 1) := by decide +kernel
theorem dX12_freeNodes_13 : decode cX12_freeNodes 13 = .ok (.iconst 0, 1) := by decide +kernel
theorem dX12_freeNodes_14 : decode cX12_freeNodes 14 = .ok (.invokevirtual 247, 3) := by decide +kernel
theorem dX12_freeNodes_17 : decode cX12_freeNodes 17 = .ok (.ifCond .ne 7, 3) := by decide +kernel
theorem dX12_freeNodes_20 : decode cX12_freeNodes 20 = .ok (.iconst 1, 1) := by decide +kernel
theorem dX12_freeNodes_21 : decode cX12_freeNodes 21 = .ok (.goto 4, 3) := by decide +kernel
theorem dX12_freeNodes_24 : decode cX12_freeNodes 24 = .ok (.iconst 0, 1) := by decide +kernel
theorem dX12_freeNodes_25 : decode cX12_freeNodes 25 = .ok (.iadd, 1) := by decide +kernel
theorem dX12_freeNodes_26 : decode cX12_freeNodes 26 = .ok (.istore_n 1, 1) := by decide +kernel
theorem dX12_freeNodes_27 : decode cX12_freeNodes 27 = .ok (.iinc 2 1, 3) := by decide +kernel
theorem dX12_freeNodes_30 : decode cX12_freeNodes 30 = .ok (.goto (-26), 3) := by decide +kernel
theorem dX12_freeNodes_33 : decode cX12_freeNodes 33 = .ok (.iload_n 1, 1) := by decide +kernel
theorem dX12_freeNodes_34 : decode cX12_freeNodes 34 = .ok (.ireturn, 1) := by decide +kernel
set_option maxRecDepth 100000 in
set_option maxHeartbeats 1000000 in
theorem j_X12_freeNodes_25 {p : Program} {l : Launch} {e : Env} {s : State} {m : MethodId} {args : Array Value} {below : List Frame} {meth : Method} {c : Code} {D : va_G} {aC : Nat → ClassId} {b0 fu : Nat} {σ0 τ : tM} {v : Int32} {rc4 : Nat → Int32 → Int32 → tM → Option ((Int32) × tM)} (C : tCx p l s m args meth c yX12_freeNodes.cls cX12_freeNodes 3 (some .int) D aC b0 σ0) (htab : ∀ x ∈ c.exceptionTable.toList, False) (hin : meth.name = yX12_freeNodes.name) (hrc4 : ∀ (x0 : Nat) (x1 : Int32) (x2 : Int32) (ρ : tM), rc4 x0 x1 x2 ρ = some (v, τ) → tX p l e s m args below meth c 3 1 22 D aC b0 σ0 (.inl (some (.int v))) τ 4 [(0, .ref (x0)), (1, .int (x1)), (2, .int (x2))] [] ρ) {x0 : Nat} {x2 : Int32} {s0 : Int32} {s1 : Int32} {σ : tM} (hm : J_X12_freeNodes_25 b0 fu rc4 x0 x2 s0 s1 σ = some (v, τ)) : tX p l e s m args below meth c 3 1 22 D aC b0 σ0 (.inl (some (.int v))) τ 25 [(0, .ref (x0)), (2, .int (x2))] [.int (s1), .int (s0)] σ := by
  unfold J_X12_freeNodes_25 at hm
  refine zx_iadd C dX12_freeNodes_25 ?_
  refine zx_topi (fun y8 hy8 => ?_)
  replace hm := ltb_e hm hy8
  refine zx_istore_n C [(1, .int (y8)), (0, .ref (x0)), (2, .int (x2))] dX12_freeNodes_26 rfl (by decide) rfl ?_
  obtain ⟨y9, hy9⟩ : ∃ z : Int32, z = (x2) + Int32.ofInt 1 := ⟨_, rfl⟩
  replace hm := ltb_e hm hy9
  refine zx_iinc C [(2, .int (y9)), (1, .int (y8)), (0, .ref (x0))] dX12_freeNodes_27 2 rfl hy9.symm (by decide) rfl ?_
  refine zx_goto C 4 dX12_freeNodes_30 (by decide) ?_
  exact zx_lv [2, 1, 0] [(0, .ref (x0)), (1, .int (y8)), (2, .int (y9))] rfl (hrc4 _ _ _ _ hm)
set_option maxRecDepth 100000 in
set_option maxHeartbeats 1000000 in
theorem l_X12_freeNodes_4 {p : Program} {l : Launch} {e : Env} {s : State} {m : MethodId} {args : Array Value} {below : List Frame} {meth : Method} {c : Code} {D : va_G} {aC : Nat → ClassId} {b0 fu : Nat} {σ0 τ : tM} {v : Int32}  (C : tCx p l s m args meth c yX12_freeNodes.cls cX12_freeNodes 3 (some .int) D aC b0 σ0) (htab : ∀ x ∈ c.exceptionTable.toList, False) (hin : meth.name = yX12_freeNodes.name)  : ∀ (n : Nat) (x0 : Nat) (x1 : Int32) (x2 : Int32) (σ : tM), L_X12_freeNodes_4 b0 fu  n x0 x1 x2 σ = some (v, τ) → tX p l e s m args below meth c 3 1 22 D aC b0 σ0 (.inl (some (.int v))) τ 4 [(0, .ref (x0)), (1, .int (x1)), (2, .int (x2))] [] σ := by
  intro n
  induction n with
  | zero => intro x0 x1 x2 σ hm; unfold L_X12_freeNodes_4 at hm; cases hm
  | succ n ih =>
    intro x0 x1 x2 σ hm
    unfold L_X12_freeNodes_4 at hm
    obtain ⟨rc4, hrc⟩ : ∃ z, z = L_X12_freeNodes_4 b0 fu  n := ⟨_, rfl⟩
    replace hm := ltb_e hm hrc
    rw [← hrc] at ih
    have hrc4 := ih
    clear ih hrc
    refine zx_iload_n C dX12_freeNodes_4 2 rfl ?_
    refine zx_bipush (v := 64) C dX12_freeNodes_5 (by decide) ?_
    refine zx_icmp_ge C 33 dX12_freeNodes_7 (by decide) (fun c1 => ?_) (fun c1 => ?_)
    · replace hm := ip_e hm c1
      refine zx_iload_n C dX12_freeNodes_33 1 rfl ?_
      obtain ⟨rfl, rfl⟩ := ret_e hm
      exact zx_iret C rfl rfl rfl dX12_freeNodes_34
    · replace hm := in_e hm c1
      refine zx_iload_n C dX12_freeNodes_10 1 rfl ?_
      refine zx_aload_n C dX12_freeNodes_11 0 rfl ?_
      refine zx_iload_n C dX12_freeNodes_12 2 rfl ?_
      refine zx_iconst (v := 0) C dX12_freeNodes_13 (by decide) ?_
      obtain ⟨k2, i3, hm⟩ := ckO_e hm
      obtain ⟨v4, ρ5, h6, hm⟩ := cll_e hm
      refine zx_callV (σ := σ) C [.int (x2), .int (0)] tC_11 k2 i3 Y_X12_node W_8_40 W_8_42 Wp_80 (c_X12_node h6) (by decide) (by decide) rfl (Nat.le_of_ble_eq_true rfl) dX12_freeNodes_14 rfl ?_
      refine zx_if_ne C 24 dX12_freeNodes_17 (by decide) (fun c7 => ?_) (fun c7 => ?_)
      · replace hm := in_e hm c7
        refine zx_iconst (v := 0) C dX12_freeNodes_24 (by decide) ?_
        exact zx_lv [0, 2] [(0, .ref (x0)), (2, .int (x2))] rfl (j_X12_freeNodes_25 C htab hin hrc4   hm)
      · replace hm := ip_e hm c7
        refine zx_iconst (v := 1) C dX12_freeNodes_20 (by decide) ?_
        refine zx_goto C 25 dX12_freeNodes_21 (by decide) ?_
        exact zx_lv [0, 2] [(0, .ref (x0)), (2, .int (x2))] rfl (j_X12_freeNodes_25 C htab hin hrc4   hm)
set_option maxRecDepth 100000 in
set_option maxHeartbeats 1000000 in
theorem c_X12_freeNodes {l : Launch} {D : va_G} {aC : Nat → ClassId} {b0 fu : Nat} {a0 : Nat} {σ τ : tM} {v : Int32} (hm : m_X12_freeNodes b0 fu a0 σ = some (v, τ)) : tMt l D aC b0 yX12_freeNodes (Cond.code yX12_freeNodes cX12_freeNodes 3 (some .int)) 1 22 [.ref (a0)] σ (.inl (some (.int v))) τ := by
  unfold m_X12_freeNodes at hm
  obtain ⟨hg, hm⟩ := grw_e hm
  refine tMt_of (n := 0) rfl (Nat.le_of_ble_eq_true rfl) hg ?_
  intro p e s m below meth c C htab hin
  refine zx_lv [0] [(0, .ref (a0))] rfl ?_
  refine zx_iconst (v := 0) C dX12_freeNodes_0 (by decide) ?_
  refine zx_istore_n C [(1, .int (0)), (0, .ref (a0))] dX12_freeNodes_1 rfl (by decide) rfl ?_
  refine zx_iconst (v := 0) C dX12_freeNodes_2 (by decide) ?_
  refine zx_istore_n C [(2, .int (0)), (1, .int (0)), (0, .ref (a0))] dX12_freeNodes_3 rfl (by decide) rfl ?_
  exact zx_lv [2, 1, 0] [(0, .ref (a0)), (1, .int (0)), (2, .int (0))] rfl (l_X12_freeNodes_4 C htab hin  _ _ _ _ _ hm)
abbrev cX12_total : ByteArray := prog_13_method_116_code
def yX12_total : MethodName := ⟨"SyncTreeModel", "total", "(I)I"⟩
theorem Y_X12_total : tY yX12_total cX12_total 2 (some .int) 1 := ⟨W_9_117, W_1_14, ⟨by decide +kernel, by decide +kernel⟩, by decide +kernel⟩
theorem dX12_total_0 : decode cX12_total 0 = .ok (.aload_n 0, 1) := by decide +kernel
theorem dX12_total_1 : decode cX12_total 1 = .ok (.iconst 0, 1) := by decide +kernel
theorem dX12_total_2 : decode cX12_total 2 = .ok (.putfield 3, 3) := by decide +kernel
theorem dX12_total_5 : decode cX12_total 5 = .ok (.iload_n 1, 1) := by decide +kernel
theorem dX12_total_6 : decode cX12_total 6 = .ok (.ifCond .lt 9, 3) := by decide +kernel
theorem dX12_total_9 : decode cX12_total 9 = .ok (.iload_n 1, 1) := by decide +kernel
theorem dX12_total_10 : decode cX12_total 10 = .ok (.bipush 18, 2) := by decide +kernel
theorem dX12_total_12 : decode cX12_total 12 = .ok (.if_icmp .le 6, 3) := by decide +kernel
theorem dX12_total_15 : decode cX12_total 15 = .ok (.bipush (-9), 2) := by decide +kernel
theorem dX12_total_17 : decode cX12_total 17 = .ok (.ireturn, 1) := by decide +kernel
theorem dX12_total_18 : decode cX12_total 18 = .ok (.aload_n 0, 1) := by decide +kernel
theorem dX12_total_19 : decode cX12_total 19 = .ok (.getfield 58, 3) := by decide +kernel
theorem dX12_total_22 : decode cX12_total 22 = .ok (.ifCond .ne 10, 3) := by decide +kernel
theorem dX12_total_25 : decode cX12_total 25 = .ok (.iload_n 1, 1) := by decide +kernel
theorem dX12_total_26 : decode cX12_total 26 = .ok (.iconst 5, 1) := by decide +kernel
theorem dX12_total_27 : decode cX12_total 27 = .ok (.if_icmp .lt 5, 3) := by decide +kernel
theorem dX12_total_30 : decode cX12_total 30 = .ok (.iconst (-1), 1) := by decide +kernel
theorem dX12_total_31 : decode cX12_total 31 = .ok (.ireturn, 1) := by decide +kernel
theorem dX12_total_32 : decode cX12_total 32 = .ok (.iload_n 1, 1) := by decide +kernel
theorem dX12_total_33 : decode cX12_total 33 = .ok (.tableswitch 191 0 17 #[87, 100, 105, 110, 115, 120, 125, 130, 135, 140, 145, 153, 161, 166, 171, 176, 181, 186], 87) := by decide +kernel
theorem dX12_total_120 : decode cX12_total 120 = .ok (.aload_n 0, 1) := by decide +kernel
theorem dX12_total_121 : decode cX12_total 121 = .ok (.getfield 58, 3) := by decide +kernel
theorem dX12_total_124 : decode cX12_total 124 = .ok (.ifCond .eq 7, 3) := by decide +kernel
theorem dX12_total_127 : decode cX12_total 127 = .ok (.iconst 1, 1) := by decide +kernel
theorem dX12_total_128 : decode cX12_total 128 = .ok (.goto 4, 3) := by decide +kernel
theorem dX12_total_131 : decode cX12_total 131 = .ok (.iconst 0, 1) := by decide +kernel
theorem dX12_total_132 : decode cX12_total 132 = .ok (.ireturn, 1) := by decide +kernel
theorem dX12_total_133 : decode cX12_total 133 = .ok (.aload_n 0, 1) := by decide +kernel
theorem dX12_total_134 : decode cX12_total 134 = .ok (.getfield 93, 3) := by decide +kernel
theorem dX12_total_137 : decode cX12_total 137 = .ok (.ireturn, 1) := by decide +kernel
theorem dX12_total_138 : decode cX12_total 138 = .ok (.aload_n 0, 1) := by decide +kernel
theorem dX12_total_139 : decode cX12_total 139 = .ok (.getfield 55, 3) := by decide +kernel
theorem dX12_total_142 : decode cX12_total 142 = .ok (.ireturn, 1) := by decide +kernel
theorem dX12_total_143 : decode cX12_total 143 = .ok (.aload_n 0, 1) := by decide +kernel
theorem dX12_total_144 : decode cX12_total 144 = .ok (.getfield 105, 3) := by decide +kernel
theorem dX12_total_147 : decode cX12_total 147 = .ok (.ireturn, 1) := by decide +kernel
theorem dX12_total_148 : decode cX12_total 148 = .ok (.aload_n 0, 1) := by decide +kernel
theorem dX12_total_149 : decode cX12_total 149 = .ok (.getfield 44, 3) := by decide +kernel
theorem dX12_total_152 : decode cX12_total 152 = .ok (.ireturn, 1) := by decide +kernel
theorem dX12_total_153 : decode cX12_total 153 = .ok (.aload_n 0, 1) := by decide +kernel
theorem dX12_total_154 : decode cX12_total 154 = .ok (.invokevirtual 311, 3) := by decide +kernel
theorem dX12_total_157 : decode cX12_total 157 = .ok (.ireturn, 1) := by decide +kernel
theorem dX12_total_158 : decode cX12_total 158 = .ok (.aload_n 0, 1) := by decide +kernel
theorem dX12_total_159 : decode cX12_total 159 = .ok (.invokevirtual 475, 3) := by decide +kernel
theorem dX12_total_162 : decode cX12_total 162 = .ok (.ireturn, 1) := by decide +kernel
theorem dX12_total_163 : decode cX12_total 163 = .ok (.aload_n 0, 1) := by decide +kernel
theorem dX12_total_164 : decode cX12_total 164 = .ok (.invokevirtual 478, 3) := by decide +kernel
theorem dX12_total_167 : decode cX12_total 167 = .ok (.ireturn, 1) := by decide +kernel
theorem dX12_total_168 : decode cX12_total 168 = .ok (.aload_n 0, 1) := by decide +kernel
theorem dX12_total_169 : decode cX12_total 169 = .ok (.invokevirtual 481, 3) := by decide +kernel
theorem dX12_total_172 : decode cX12_total 172 = .ok (.ireturn, 1) := by decide +kernel
theorem dX12_total_173 : decode cX12_total 173 = .ok (.aload_n 0, 1) := by decide +kernel
theorem dX12_total_174 : decode cX12_total 174 = .ok (.invokevirtual 171, 3) := by decide +kernel
theorem dX12_total_177 : decode cX12_total 177 = .ok (.ireturn, 1) := by decide +kernel
theorem dX12_total_178 : decode cX12_total 178 = .ok (.aload_n 0, 1) := by decide +kernel
theorem dX12_total_179 : decode cX12_total 179 = .ok (.getfield 108, 3) := by decide +kernel
theorem dX12_total_182 : decode cX12_total 182 = .ok (.invokestatic 112, 3) := by decide +kernel
theorem dX12_total_185 : decode cX12_total 185 = .ok (.ireturn, 1) := by decide +kernel
theorem dX12_total_186 : decode cX12_total 186 = .ok (.aload_n 0, 1) := by decide +kernel
theorem dX12_total_187 : decode cX12_total 187 = .ok (.getfield 116, 3) := by decide +kernel
theorem dX12_total_190 : decode cX12_total 190 = .ok (.invokestatic 112, 3) := by decide +kernel
theorem dX12_total_193 : decode cX12_total 193 = .ok (.ireturn, 1) := by decide +kernel
theorem dX12_total_194 : decode cX12_total 194 = .ok (.aload_n 0, 1) := by decide +kernel
theorem dX12_total_195 : decode cX12_total 195 = .ok (.getfield 122, 3) := by decide +kernel
theorem dX12_total_198 : decode cX12_total 198 = .ok (.ireturn, 1) := by decide +kernel
theorem dX12_total_199 : decode cX12_total 199 = .ok (.aload_n 0, 1) := by decide +kernel
theorem dX12_total_200 : decode cX12_total 200 = .ok (.getfield 199, 3) := by decide +kernel
theorem dX12_total_203 : decode cX12_total 203 = .ok (.ireturn, 1) := by decide +kernel
theorem dX12_total_204 : decode cX12_total 204 = .ok (.aload_n 0, 1) := by decide +kernel
theorem dX12_total_205 : decode cX12_total 205 = .ok (.getfield 208, 3) := by decide +kernel
theorem dX12_total_208 : decode cX12_total 208 = .ok (.ireturn, 1) := by decide +kernel
theorem dX12_total_209 : decode cX12_total 209 = .ok (.aload_n 0, 1) := by decide +kernel
theorem dX12_total_210 : decode cX12_total 210 = .ok (.getfield 202, 3) := by decide +kernel
theorem dX12_total_213 : decode cX12_total 213 = .ok (.ireturn, 1) := by decide +kernel
theorem dX12_total_214 : decode cX12_total 214 = .ok (.aload_n 0, 1) := by decide +kernel
theorem dX12_total_215 : decode cX12_total 215 = .ok (.getfield 119, 3) := by decide +kernel
theorem dX12_total_218 : decode cX12_total 218 = .ok (.ireturn, 1) := by decide +kernel
theorem dX12_total_219 : decode cX12_total 219 = .ok (.aload_n 0, 1) := by decide +kernel
theorem dX12_total_220 : decode cX12_total 220 = .ok (.invokevirtual 174, 3) := by decide +kernel
theorem dX12_total_223 : decode cX12_total 223 = .ok (.ireturn, 1) := by decide +kernel
theorem dX12_total_224 : decode cX12_total 224 = .ok (.aload_n 0, 1) := by decide +kernel
theorem dX12_total_225 : decode cX12_total 225 = .ok (.getfield 161, 3) := by decide +kernel
theorem dX12_total_228 : decode cX12_total 228 = .ok (.ireturn, 1) := by decide +kernel
set_option maxRecDepth 100000 in
set_option maxHeartbeats 1000000 in
theorem j_X12_total_15 {p : Program} {l : Launch} {e : Env} {s : State} {m : MethodId} {args : Array Value} {below : List Frame} {meth : Method} {c : Code} {D : va_G} {aC : Nat → ClassId} {b0 fu : Nat} {σ0 τ : tM} {v : Int32}  (C : tCx p l s m args meth c yX12_total.cls cX12_total 2 (some .int) D aC b0 σ0) (htab : ∀ x ∈ c.exceptionTable.toList, False) (hin : meth.name = yX12_total.name)   {σ : tM} (hm : J_X12_total_15 b0 fu   σ = some (v, τ)) : tX p l e s m args below meth c 2 3 64 D aC b0 σ0 (.inl (some (.int v))) τ 15 [] [] σ := by
  unfold J_X12_total_15 at hm
  refine zx_bipush (v := (-9)) C dX12_total_15 (by decide) ?_
  obtain ⟨rfl, rfl⟩ := ret_e hm
  exact zx_iret C rfl rfl rfl dX12_total_17
set_option maxRecDepth 100000 in
set_option maxHeartbeats 1000000 in
theorem j_X12_total_132 {p : Program} {l : Launch} {e : Env} {s : State} {m : MethodId} {args : Array Value} {below : List Frame} {meth : Method} {c : Code} {D : va_G} {aC : Nat → ClassId} {b0 fu : Nat} {σ0 τ : tM} {v : Int32}  (C : tCx p l s m args meth c yX12_total.cls cX12_total 2 (some .int) D aC b0 σ0) (htab : ∀ x ∈ c.exceptionTable.toList, False) (hin : meth.name = yX12_total.name)  {s0 : Int32} {σ : tM} (hm : J_X12_total_132 b0 fu  s0 σ = some (v, τ)) : tX p l e s m args below meth c 2 3 64 D aC b0 σ0 (.inl (some (.int v))) τ 132 [] [.int (s0)] σ := by
  unfold J_X12_total_132 at hm
  obtain ⟨rfl, rfl⟩ := ret_e hm
  exact zx_iret C rfl rfl rfl dX12_total_132
set_option maxRecDepth 100000 in
set_option maxHeartbeats 1000000 in
theorem j_X12_total_32 {p : Program} {l : Launch} {e : Env} {s : State} {m : MethodId} {args : Array Value} {below : List Frame} {meth : Method} {c : Code} {D : va_G} {aC : Nat → ClassId} {b0 fu : Nat} {σ0 τ : tM} {v : Int32}  (C : tCx p l s m args meth c yX12_total.cls cX12_total 2 (some .int) D aC b0 σ0) (htab : ∀ x ∈ c.exceptionTable.toList, False) (hin : meth.name = yX12_total.name)  {x0 : Nat} {x1 : Int32} {σ : tM} (hm : J_X12_total_32 b0 fu  x0 x1 σ = some (v, τ)) : tX p l e s m args below meth c 2 3 64 D aC b0 σ0 (.inl (some (.int v))) τ 32 [(0, .ref (x0)), (1, .int (x1))] [] σ := by
  unfold J_X12_total_32 at hm
  refine zx_iload_n C dX12_total_32 1 rfl ?_
  rcases Classical.em ((x1) = (0)) with c33_0 | c33_0
  · replace hm := ip_e hm c33_0
    refine zx_tabIn (off := 87) C 120 dX12_total_33 (by rw [c33_0]; decide) (by rw [c33_0]; decide) (by rw [c33_0]; decide) (by decide) ?_
    refine zx_aload_n C dX12_total_120 0 rfl ?_
    obtain ⟨k6, i7, hm⟩ := ckO_e hm
    refine zx_get (j := 18) C tC_11 k6 i7 ⟨by decide, Or.inl W_6_237⟩ dX12_total_121 (.int (tI (σ) (x0) 18)) rfl ?_
    refine zx_if_eq C 131 dX12_total_124 (by decide) (fun c8 => ?_) (fun c8 => ?_)
    · replace hm := ip_e hm c8
      refine zx_iconst (v := 0) C dX12_total_131 (by decide) ?_
      exact zx_lv [] [] rfl (j_X12_total_132 C htab hin    hm)
    · replace hm := in_e hm c8
      refine zx_iconst (v := 1) C dX12_total_127 (by decide) ?_
      refine zx_goto C 132 dX12_total_128 (by decide) ?_
      exact zx_lv [] [] rfl (j_X12_total_132 C htab hin    hm)
  · replace hm := in_e hm c33_0
    rcases Classical.em ((x1) = (1)) with c33_1 | c33_1
    · replace hm := ip_e hm c33_1
      refine zx_tabIn (off := 100) C 133 dX12_total_33 (by rw [c33_1]; decide) (by rw [c33_1]; decide) (by rw [c33_1]; decide) (by decide) ?_
      refine zx_aload_n C dX12_total_133 0 rfl ?_
      obtain ⟨k9, i10, hm⟩ := ckO_e hm
      refine zx_get (j := 16) C tC_11 k9 i10 ⟨by decide, Or.inl W_6_235⟩ dX12_total_134 (.int (tI (σ) (x0) 16)) rfl ?_
      obtain ⟨rfl, rfl⟩ := ret_e hm
      exact zx_iret C rfl rfl rfl dX12_total_137
    · replace hm := in_e hm c33_1
      rcases Classical.em ((x1) = (2)) with c33_2 | c33_2
      · replace hm := ip_e hm c33_2
        refine zx_tabIn (off := 105) C 138 dX12_total_33 (by rw [c33_2]; decide) (by rw [c33_2]; decide) (by rw [c33_2]; decide) (by decide) ?_
        refine zx_aload_n C dX12_total_138 0 rfl ?_
        obtain ⟨k11, i12, hm⟩ := ckO_e hm
        refine zx_get (j := 20) C tC_11 k11 i12 ⟨by decide, Or.inl W_6_239⟩ dX12_total_139 (.int (tI (σ) (x0) 20)) rfl ?_
        obtain ⟨rfl, rfl⟩ := ret_e hm
        exact zx_iret C rfl rfl rfl dX12_total_142
      · replace hm := in_e hm c33_2
        rcases Classical.em ((x1) = (3)) with c33_3 | c33_3
        · replace hm := ip_e hm c33_3
          refine zx_tabIn (off := 110) C 143 dX12_total_33 (by rw [c33_3]; decide) (by rw [c33_3]; decide) (by rw [c33_3]; decide) (by decide) ?_
          refine zx_aload_n C dX12_total_143 0 rfl ?_
          obtain ⟨k13, i14, hm⟩ := ckO_e hm
          refine zx_get (j := 21) C tC_11 k13 i14 ⟨by decide, Or.inl W_7_0⟩ dX12_total_144 (.int (tI (σ) (x0) 21)) rfl ?_
          obtain ⟨rfl, rfl⟩ := ret_e hm
          exact zx_iret C rfl rfl rfl dX12_total_147
        · replace hm := in_e hm c33_3
          rcases Classical.em ((x1) = (4)) with c33_4 | c33_4
          · replace hm := ip_e hm c33_4
            refine zx_tabIn (off := 115) C 148 dX12_total_33 (by rw [c33_4]; decide) (by rw [c33_4]; decide) (by rw [c33_4]; decide) (by decide) ?_
            refine zx_aload_n C dX12_total_148 0 rfl ?_
            obtain ⟨k15, i16, hm⟩ := ckO_e hm
            refine zx_get (j := 19) C tC_11 k15 i16 ⟨by decide, Or.inl W_6_238⟩ dX12_total_149 (.int (tI (σ) (x0) 19)) rfl ?_
            obtain ⟨rfl, rfl⟩ := ret_e hm
            exact zx_iret C rfl rfl rfl dX12_total_152
          · replace hm := in_e hm c33_4
            rcases Classical.em ((x1) = (5)) with c33_5 | c33_5
            · replace hm := ip_e hm c33_5
              refine zx_tabIn (off := 120) C 153 dX12_total_33 (by rw [c33_5]; decide) (by rw [c33_5]; decide) (by rw [c33_5]; decide) (by decide) ?_
              refine zx_aload_n C dX12_total_153 0 rfl ?_
              obtain ⟨k17, i18, hm⟩ := ckO_e hm
              obtain ⟨v19, ρ20, h21, hm⟩ := cll_e hm
              refine zx_callV (σ := σ) C [] tC_11 k17 i18 Y_X12_freeBlocks W_8_91 W_8_93 Wp_92 (c_X12_freeBlocks h21) (by decide) (by decide) rfl (Nat.le_of_ble_eq_true rfl) dX12_total_154 rfl ?_
              obtain ⟨rfl, rfl⟩ := ret_e hm
              exact zx_iret C rfl rfl rfl dX12_total_157
            · replace hm := in_e hm c33_5
              rcases Classical.em ((x1) = (6)) with c33_6 | c33_6
              · replace hm := ip_e hm c33_6
                refine zx_tabIn (off := 125) C 158 dX12_total_33 (by rw [c33_6]; decide) (by rw [c33_6]; decide) (by rw [c33_6]; decide) (by decide) ?_
                refine zx_aload_n C dX12_total_158 0 rfl ?_
                obtain ⟨k22, i23, hm⟩ := ckO_e hm
                obtain ⟨v24, ρ25, h26, hm⟩ := cll_e hm
                refine zx_callV (σ := σ) C [] tC_11 k22 i23 Y_X12_retiredBlocks W_9_118 W_9_120 Wp_126 (c_X12_retiredBlocks h26) (by decide) (by decide) rfl (Nat.le_of_ble_eq_true rfl) dX12_total_159 rfl ?_
                obtain ⟨rfl, rfl⟩ := ret_e hm
                exact zx_iret C rfl rfl rfl dX12_total_162
              · replace hm := in_e hm c33_6
                rcases Classical.em ((x1) = (7)) with c33_7 | c33_7
                · replace hm := ip_e hm c33_7
                  refine zx_tabIn (off := 130) C 163 dX12_total_33 (by rw [c33_7]; decide) (by rw [c33_7]; decide) (by rw [c33_7]; decide) (by decide) ?_
                  refine zx_aload_n C dX12_total_163 0 rfl ?_
                  obtain ⟨k27, i28, hm⟩ := ckO_e hm
                  obtain ⟨v29, ρ30, h31, hm⟩ := cll_e hm
                  refine zx_callV (σ := σ) C [] tC_11 k27 i28 Y_X12_dirtyBlocks W_9_122 W_9_124 Wp_127 (c_X12_dirtyBlocks h31) (by decide) (by decide) rfl (Nat.le_of_ble_eq_true rfl) dX12_total_164 rfl ?_
                  obtain ⟨rfl, rfl⟩ := ret_e hm
                  exact zx_iret C rfl rfl rfl dX12_total_167
                · replace hm := in_e hm c33_7
                  rcases Classical.em ((x1) = (8)) with c33_8 | c33_8
                  · replace hm := ip_e hm c33_8
                    refine zx_tabIn (off := 135) C 168 dX12_total_33 (by rw [c33_8]; decide) (by rw [c33_8]; decide) (by rw [c33_8]; decide) (by decide) ?_
                    refine zx_aload_n C dX12_total_168 0 rfl ?_
                    obtain ⟨k32, i33, hm⟩ := ckO_e hm
                    obtain ⟨v34, ρ35, h36, hm⟩ := cll_e hm
                    refine zx_callV (σ := σ) C [] tC_11 k32 i33 Y_X12_freeNodes W_9_126 W_9_128 Wp_128 (c_X12_freeNodes h36) (by decide) (by decide) rfl (Nat.le_of_ble_eq_true rfl) dX12_total_169 rfl ?_
                    obtain ⟨rfl, rfl⟩ := ret_e hm
                    exact zx_iret C rfl rfl rfl dX12_total_172
                  · replace hm := in_e hm c33_8
                    rcases Classical.em ((x1) = (9)) with c33_9 | c33_9
                    · replace hm := ip_e hm c33_9
                      refine zx_tabIn (off := 140) C 173 dX12_total_33 (by rw [c33_9]; decide) (by rw [c33_9]; decide) (by rw [c33_9]; decide) (by decide) ?_
                      refine zx_aload_n C dX12_total_173 0 rfl ?_
                      obtain ⟨k37, i38, hm⟩ := ckO_e hm
                      obtain ⟨v39, ρ40, h41, hm⟩ := cll_e hm
                      refine zx_callV (σ := σ) C [] tC_11 k37 i38 Y_X12_groupSize W_7_189 W_7_191 Wp_59 (c_X12_groupSize h41) (by decide) (by decide) rfl (Nat.le_of_ble_eq_true rfl) dX12_total_174 rfl ?_
                      obtain ⟨rfl, rfl⟩ := ret_e hm
                      exact zx_iret C rfl rfl rfl dX12_total_177
                    · replace hm := in_e hm c33_9
                      rcases Classical.em ((x1) = (10)) with c33_10 | c33_10
                      · replace hm := ip_e hm c33_10
                        refine zx_tabIn (off := 145) C 178 dX12_total_33 (by rw [c33_10]; decide) (by rw [c33_10]; decide) (by rw [c33_10]; decide) (by decide) ?_
                        refine zx_aload_n C dX12_total_178 0 rfl ?_
                        obtain ⟨k42, i43, hm⟩ := ckO_e hm
                        obtain ⟨a44, h45, hm⟩ := osm_e hm
                        refine zx_get (j := 26) C tC_11 k42 i43 ⟨by decide, Or.inl W_7_5⟩ dX12_total_179 (.ref a44) (rf_s h45) ?_
                        obtain ⟨v46, ρ47, h48, hm⟩ := cll_e hm
                        refine zx_callS (σ := σ) C [.ref (a44)] Y_X12_count W_7_193 W_7_194 (c_X12_count h48) (by decide) (by decide) rfl (Nat.le_of_ble_eq_true rfl) dX12_total_182 rfl ?_
                        obtain ⟨rfl, rfl⟩ := ret_e hm
                        exact zx_iret C rfl rfl rfl dX12_total_185
                      · replace hm := in_e hm c33_10
                        rcases Classical.em ((x1) = (11)) with c33_11 | c33_11
                        · replace hm := ip_e hm c33_11
                          refine zx_tabIn (off := 153) C 186 dX12_total_33 (by rw [c33_11]; decide) (by rw [c33_11]; decide) (by rw [c33_11]; decide) (by decide) ?_
                          refine zx_aload_n C dX12_total_186 0 rfl ?_
                          obtain ⟨k49, i50, hm⟩ := ckO_e hm
                          obtain ⟨a51, h52, hm⟩ := osm_e hm
                          refine zx_get (j := 27) C tC_11 k49 i50 ⟨by decide, Or.inl W_7_6⟩ dX12_total_187 (.ref a51) (rf_s h52) ?_
                          obtain ⟨v53, ρ54, h55, hm⟩ := cll_e hm
                          refine zx_callS (σ := σ) C [.ref (a51)] Y_X12_count W_7_193 W_7_194 (c_X12_count h55) (by decide) (by decide) rfl (Nat.le_of_ble_eq_true rfl) dX12_total_190 rfl ?_
                          obtain ⟨rfl, rfl⟩ := ret_e hm
                          exact zx_iret C rfl rfl rfl dX12_total_193
                        · replace hm := in_e hm c33_11
                          rcases Classical.em ((x1) = (12)) with c33_12 | c33_12
                          · replace hm := ip_e hm c33_12
                            refine zx_tabIn (off := 161) C 194 dX12_total_33 (by rw [c33_12]; decide) (by rw [c33_12]; decide) (by rw [c33_12]; decide) (by decide) ?_
                            refine zx_aload_n C dX12_total_194 0 rfl ?_
                            obtain ⟨k56, i57, hm⟩ := ckO_e hm
                            refine zx_get (j := 28) C tC_11 k56 i57 ⟨by decide, Or.inl W_7_7⟩ dX12_total_195 (.int (tI (σ) (x0) 28)) rfl ?_
                            obtain ⟨rfl, rfl⟩ := ret_e hm
                            exact zx_iret C rfl rfl rfl dX12_total_198
                          · replace hm := in_e hm c33_12
                            rcases Classical.em ((x1) = (13)) with c33_13 | c33_13
                            · replace hm := ip_e hm c33_13
                              refine zx_tabIn (off := 166) C 199 dX12_total_33 (by rw [c33_13]; decide) (by rw [c33_13]; decide) (by rw [c33_13]; decide) (by decide) ?_
                              refine zx_aload_n C dX12_total_199 0 rfl ?_
                              obtain ⟨k58, i59, hm⟩ := ckO_e hm
                              refine zx_get (j := 29) C tC_11 k58 i59 ⟨by decide, Or.inl W_7_8⟩ dX12_total_200 (.int (tI (σ) (x0) 29)) rfl ?_
                              obtain ⟨rfl, rfl⟩ := ret_e hm
                              exact zx_iret C rfl rfl rfl dX12_total_203
                            · replace hm := in_e hm c33_13
                              rcases Classical.em ((x1) = (14)) with c33_14 | c33_14
                              · replace hm := ip_e hm c33_14
                                refine zx_tabIn (off := 171) C 204 dX12_total_33 (by rw [c33_14]; decide) (by rw [c33_14]; decide) (by rw [c33_14]; decide) (by decide) ?_
                                refine zx_aload_n C dX12_total_204 0 rfl ?_
                                obtain ⟨k60, i61, hm⟩ := ckO_e hm
                                refine zx_get (j := 30) C tC_11 k60 i61 ⟨by decide, Or.inl W_7_9⟩ dX12_total_205 (.int (tI (σ) (x0) 30)) rfl ?_
                                obtain ⟨rfl, rfl⟩ := ret_e hm
                                exact zx_iret C rfl rfl rfl dX12_total_208
                              · replace hm := in_e hm c33_14
                                rcases Classical.em ((x1) = (15)) with c33_15 | c33_15
                                · replace hm := ip_e hm c33_15
                                  refine zx_tabIn (off := 176) C 209 dX12_total_33 (by rw [c33_15]; decide) (by rw [c33_15]; decide) (by rw [c33_15]; decide) (by decide) ?_
                                  refine zx_aload_n C dX12_total_209 0 rfl ?_
                                  obtain ⟨k62, i63, hm⟩ := ckO_e hm
                                  refine zx_get (j := 31) C tC_11 k62 i63 ⟨by decide, Or.inl W_7_10⟩ dX12_total_210 (.int (tI (σ) (x0) 31)) rfl ?_
                                  obtain ⟨rfl, rfl⟩ := ret_e hm
                                  exact zx_iret C rfl rfl rfl dX12_total_213
                                · replace hm := in_e hm c33_15
                                  rcases Classical.em ((x1) = (16)) with c33_16 | c33_16
                                  · replace hm := ip_e hm c33_16
                                    refine zx_tabIn (off := 181) C 214 dX12_total_33 (by rw [c33_16]; decide) (by rw [c33_16]; decide) (by rw [c33_16]; decide) (by decide) ?_
                                    refine zx_aload_n C dX12_total_214 0 rfl ?_
                                    obtain ⟨k64, i65, hm⟩ := ckO_e hm
                                    refine zx_get (j := 32) C tC_11 k64 i65 ⟨by decide, Or.inl W_7_11⟩ dX12_total_215 (.int (tI (σ) (x0) 32)) rfl ?_
                                    obtain ⟨rfl, rfl⟩ := ret_e hm
                                    exact zx_iret C rfl rfl rfl dX12_total_218
                                  · replace hm := in_e hm c33_16
                                    rcases Classical.em ((x1) = (17)) with c33_17 | c33_17
                                    · replace hm := ip_e hm c33_17
                                      refine zx_tabIn (off := 186) C 219 dX12_total_33 (by rw [c33_17]; decide) (by rw [c33_17]; decide) (by rw [c33_17]; decide) (by decide) ?_
                                      refine zx_aload_n C dX12_total_219 0 rfl ?_
                                      obtain ⟨k66, i67, hm⟩ := ckO_e hm
                                      obtain ⟨v68, ρ69, h70, hm⟩ := cll_e hm
                                      refine zx_callV (σ := σ) C [] tC_11 k66 i67 Y_X12_freeOfLog W_7_200 W_7_202 Wp_61 (c_X12_freeOfLog h70) (by decide) (by decide) rfl (Nat.le_of_ble_eq_true rfl) dX12_total_220 rfl ?_
                                      obtain ⟨rfl, rfl⟩ := ret_e hm
                                      exact zx_iret C rfl rfl rfl dX12_total_223
                                    · replace hm := in_e hm c33_17
                                      have g33_0 : (x1).toInt ≠ 0 := fun e9 => c33_0 (Int32.toInt_inj.mp (e9.trans (by decide)))
                                      have g33_1 : (x1).toInt ≠ 1 := fun e9 => c33_1 (Int32.toInt_inj.mp (e9.trans (by decide)))
                                      have g33_2 : (x1).toInt ≠ 2 := fun e9 => c33_2 (Int32.toInt_inj.mp (e9.trans (by decide)))
                                      have g33_3 : (x1).toInt ≠ 3 := fun e9 => c33_3 (Int32.toInt_inj.mp (e9.trans (by decide)))
                                      have g33_4 : (x1).toInt ≠ 4 := fun e9 => c33_4 (Int32.toInt_inj.mp (e9.trans (by decide)))
                                      have g33_5 : (x1).toInt ≠ 5 := fun e9 => c33_5 (Int32.toInt_inj.mp (e9.trans (by decide)))
                                      have g33_6 : (x1).toInt ≠ 6 := fun e9 => c33_6 (Int32.toInt_inj.mp (e9.trans (by decide)))
                                      have g33_7 : (x1).toInt ≠ 7 := fun e9 => c33_7 (Int32.toInt_inj.mp (e9.trans (by decide)))
                                      have g33_8 : (x1).toInt ≠ 8 := fun e9 => c33_8 (Int32.toInt_inj.mp (e9.trans (by decide)))
                                      have g33_9 : (x1).toInt ≠ 9 := fun e9 => c33_9 (Int32.toInt_inj.mp (e9.trans (by decide)))
                                      have g33_10 : (x1).toInt ≠ 10 := fun e9 => c33_10 (Int32.toInt_inj.mp (e9.trans (by decide)))
                                      have g33_11 : (x1).toInt ≠ 11 := fun e9 => c33_11 (Int32.toInt_inj.mp (e9.trans (by decide)))
                                      have g33_12 : (x1).toInt ≠ 12 := fun e9 => c33_12 (Int32.toInt_inj.mp (e9.trans (by decide)))
                                      have g33_13 : (x1).toInt ≠ 13 := fun e9 => c33_13 (Int32.toInt_inj.mp (e9.trans (by decide)))
                                      have g33_14 : (x1).toInt ≠ 14 := fun e9 => c33_14 (Int32.toInt_inj.mp (e9.trans (by decide)))
                                      have g33_15 : (x1).toInt ≠ 15 := fun e9 => c33_15 (Int32.toInt_inj.mp (e9.trans (by decide)))
                                      have g33_16 : (x1).toInt ≠ 16 := fun e9 => c33_16 (Int32.toInt_inj.mp (e9.trans (by decide)))
                                      have g33_17 : (x1).toInt ≠ 17 := fun e9 => c33_17 (Int32.toInt_inj.mp (e9.trans (by decide)))
                                      refine zx_tabOut C 224 dX12_total_33 (by omega) (by decide) ?_
                                      refine zx_aload_n C dX12_total_224 0 rfl ?_
                                      obtain ⟨k71, i72, hm⟩ := ckO_e hm
                                      refine zx_get (j := 33) C tC_11 k71 i72 ⟨by decide, Or.inl W_7_12⟩ dX12_total_225 (.int (tI (σ) (x0) 33)) rfl ?_
                                      obtain ⟨rfl, rfl⟩ := ret_e hm
                                      exact zx_iret C rfl rfl rfl dX12_total_228
set_option maxRecDepth 100000 in
set_option maxHeartbeats 1000000 in
theorem c_X12_total {l : Launch} {D : va_G} {aC : Nat → ClassId} {b0 fu : Nat} {a0 : Nat} {p0 : Int32} {σ τ : tM} {v : Int32} (hm : m_X12_total b0 fu a0 p0 σ = some (v, τ)) : tMt l D aC b0 yX12_total (Cond.code yX12_total cX12_total 2 (some .int)) 3 64 [.ref (a0), .int (p0)] σ (.inl (some (.int v))) τ := by
  unfold m_X12_total at hm
  obtain ⟨hg, hm⟩ := grw_e hm
  refine tMt_of (n := 0) rfl (Nat.le_of_ble_eq_true rfl) hg ?_
  intro p e s m below meth c C htab hin
  refine zx_lv [0, 1] [(0, .ref (a0)), (1, .int (p0))] rfl ?_
  refine zx_aload_n C dX12_total_0 0 rfl ?_
  refine zx_iconst (v := 0) C dX12_total_1 (by decide) ?_
  obtain ⟨k1, i2, hm⟩ := ckO_e hm
  refine zx_put (j := 0) (ρ := sI (σ) (a0) 0 (0)) C tC_11 k1 i2 ⟨by decide, Or.inl W_6_220⟩ rfl rfl rfl (sI_ok (fun _ => rfl)) dX12_total_2 ?_
  refine zx_iload_n C dX12_total_5 1 rfl ?_
  refine zx_if_lt C 15 dX12_total_6 (by decide) (fun c3 => ?_) (fun c3 => ?_)
  · replace hm := ip_e hm c3
    exact zx_lv [] [] rfl (j_X12_total_15 C htab hin    hm)
  · replace hm := in_e hm c3
    refine zx_iload_n C dX12_total_9 1 rfl ?_
    refine zx_bipush (v := 18) C dX12_total_10 (by decide) ?_
    refine zx_icmp_le C 18 dX12_total_12 (by decide) (fun c4 => ?_) (fun c4 => ?_)
    · replace hm := ip_e hm c4
      refine zx_aload_n C dX12_total_18 0 rfl ?_
      refine zx_get (j := 18) C tC_11 k1 i2 ⟨by decide, Or.inl W_6_237⟩ dX12_total_19 (.int (tI (sI (σ) (a0) 0 (0)) (a0) 18)) rfl ?_
      refine zx_if_ne C 32 dX12_total_22 (by decide) (fun c5 => ?_) (fun c5 => ?_)
      · replace hm := in_e hm c5
        exact zx_lv [0, 1] [(0, .ref (a0)), (1, .int (p0))] rfl (j_X12_total_32 C htab hin    hm)
      · replace hm := ip_e hm c5
        refine zx_iload_n C dX12_total_25 1 rfl ?_
        refine zx_iconst (v := 5) C dX12_total_26 (by decide) ?_
        refine zx_icmp_lt C 32 dX12_total_27 (by decide) (fun c73 => ?_) (fun c73 => ?_)
        · replace hm := ip_e hm c73
          exact zx_lv [0, 1] [(0, .ref (a0)), (1, .int (p0))] rfl (j_X12_total_32 C htab hin    hm)
        · replace hm := in_e hm c73
          refine zx_iconst (v := (-1)) C dX12_total_30 (by decide) ?_
          obtain ⟨rfl, rfl⟩ := ret_e hm
          exact zx_iret C rfl rfl rfl dX12_total_31
    · replace hm := in_e hm c4
      exact zx_lv [] [] rfl (j_X12_total_15 C htab hin    hm)
abbrev cX12_putNode : ByteArray := prog_13_method_5_code
def yX12_putNode : MethodName := ⟨"SyncTreeModel", "putNode", "(III)V"⟩
theorem Y_X12_putNode : tY yX12_putNode cX12_putNode 4 none 3 := ⟨W_8_102, W_1_14, ⟨by decide +kernel, by decide +kernel⟩, by decide +kernel⟩
theorem dX12_putNode_0 : decode cX12_putNode 0 = .ok (.aload_n 0, 1) := by decide +kernel
theorem dX12_putNode_1 : decode cX12_putNode 1 = .ok (.iload_n 1, 1) := by decide +kernel
theorem dX12_putNode_2 : decode cX12_putNode 2 = .ok (.bipush 95, 2) := by decide +kernel
theorem dX12_putNode_4 : decode cX12_putNode 4 = .ok (.imul, 1) := by decide +kernel
theorem dX12_putNode_5 : decode cX12_putNode 5 = .ok (.iload_n 2, 1) := by decide +kernel
theorem dX12_putNode_6 : decode cX12_putNode 6 = .ok (.iadd, 1) := by decide +kernel
theorem dX12_putNode_7 : decode cX12_putNode 7 = .ok (.iload_n 3, 1) := by decide +kernel
theorem dX12_putNode_8 : decode cX12_putNode 8 = .ok (.invokevirtual 30, 3) := by decide +kernel
theorem dX12_putNode_11 : decode cX12_putNode 11 = .ok (.aload_n 0, 1) := by decide +kernel
theorem dX12_putNode_12 : decode cX12_putNode 12 = .ok (.iconst 2, 1) := by decide +kernel
theorem dX12_putNode_13 : decode cX12_putNode 13 = .ok (.iload_n 1, 1) := by decide +kernel
theorem dX12_putNode_14 : decode cX12_putNode 14 = .ok (.iconst 2, 1) := by decide +kernel
theorem dX12_putNode_15 : decode cX12_putNode 15 = .ok (.idiv, 1) := by decide +kernel
theorem dX12_putNode_16 : decode cX12_putNode 16 = .ok (.iadd, 1) := by decide +kernel
theorem dX12_putNode_17 : decode cX12_putNode 17 = .ok (.invokevirtual 34, 3) := by decide +kernel
theorem dX12_putNode_20 : decode cX12_putNode 20 = .ok (.return_, 1) := by decide +kernel
set_option maxRecDepth 100000 in
set_option maxHeartbeats 1000000 in
theorem c_X12_putNode {l : Launch} {D : va_G} {aC : Nat → ClassId} {b0 fu : Nat} {a0 : Nat} {p0 : Int32} {p1 : Int32} {p2 : Int32} {σ τ : tM} {v : Unit} (hm : m_X12_putNode b0 fu a0 p0 p1 p2 σ = some (v, τ)) : tMt l D aC b0 yX12_putNode (Cond.code yX12_putNode cX12_putNode 4 none) 3 70 [.ref (a0), .int (p0), .int (p1), .int (p2)] σ (.inl none) τ := by
  unfold m_X12_putNode at hm
  obtain ⟨hg, hm⟩ := grw_e hm
  refine tMt_of (n := 0) rfl (Nat.le_of_ble_eq_true rfl) hg ?_
  intro p e s m below meth c C htab hin
  refine zx_lv [0, 1, 2, 3] [(0, .ref (a0)), (1, .int (p0)), (2, .int (p1)), (3, .int (p2))] rfl ?_
  refine zx_aload_n C dX12_putNode_0 0 rfl ?_
  refine zx_iload_n C dX12_putNode_1 1 rfl ?_
  refine zx_bipush (v := 95) C dX12_putNode_2 (by decide) ?_
  refine zx_imul C dX12_putNode_4 ?_
  refine zx_iload_n C dX12_putNode_5 2 rfl ?_
  refine zx_iadd C dX12_putNode_6 ?_
  refine zx_iload_n C dX12_putNode_7 3 rfl ?_
  obtain ⟨k1, i2, hm⟩ := ckO_e hm
  obtain ⟨v3, ρ4, h5, hm⟩ := cll_e hm
  refine zx_callV (σ := σ) C [.int (((p0) * (95)) + (p1)), .int (p2)] tC_11 k1 i2 Y_X12_put W_8_103 W_8_105 Wp_95 (c_X12_put h5) (by decide) (by decide) rfl (Nat.le_of_ble_eq_true rfl) dX12_putNode_8 rfl ?_
  refine zx_aload_n C dX12_putNode_11 0 rfl ?_
  refine zx_iconst (v := 2) C dX12_putNode_12 (by decide) ?_
  refine zx_iload_n C dX12_putNode_13 1 rfl ?_
  refine zx_iconst (v := 2) C dX12_putNode_14 (by decide) ?_
  refine zx_idiv C dX12_putNode_15 (by decide) ?_
  refine zx_iadd C dX12_putNode_16 ?_
  obtain ⟨k6, i7, hm⟩ := ckO_e hm
  obtain ⟨v8, ρ9, h10, hm⟩ := cll_e hm
  refine zx_callV (σ := ρ4) C [.int ((2) + ((p0) / (2)))] tC_11 k6 i7 Y_X12_touch W_8_107 W_8_109 Wp_96 (c_X12_touch h10) (by decide) (by decide) rfl (Nat.le_of_ble_eq_true rfl) dX12_putNode_17 rfl ?_
  obtain ⟨rfl, rfl⟩ := ret_e hm
  exact zx_vret C rfl rfl rfl dX12_putNode_20
abbrev cX12_act : ByteArray := prog_13_method_9_code
def yX12_act : MethodName := ⟨"SyncTreeModel", "act", "()V"⟩
theorem Y_X12_act : tY yX12_act cX12_act 1 none 0 := ⟨W_7_219, W_1_14, ⟨by decide +kernel, by decide +kernel⟩, by decide +kernel⟩
theorem dX12_act_0 : decode cX12_act 0 = .ok (.aload_n 0, 1) := by decide +kernel
theorem dX12_act_1 : decode cX12_act 1 = .ok (.getfield 44, 3) := by decide +kernel
theorem dX12_act_4 : decode cX12_act 4 = .ok (.ifCond .ne 11, 3) := by decide +kernel
theorem dX12_act_7 : decode cX12_act 7 = .ok (.aload_n 0, 1) := by decide +kernel
theorem dX12_act_8 : decode cX12_act 8 = .ok (.invokevirtual 47, 3) := by decide +kernel
theorem dX12_act_11 : decode cX12_act 11 = .ok (.getstatic 51, 3) := by decide +kernel
theorem dX12_act_14 : decode cX12_act 14 = .ok (.athrow, 1) := by decide +kernel
theorem dX12_act_15 : decode cX12_act 15 = .ok (.aload_n 0, 1) := by decide +kernel
theorem dX12_act_16 : decode cX12_act 16 = .ok (.getfield 44, 3) := by decide +kernel
theorem dX12_act_19 : decode cX12_act 19 = .ok (.ifCond .le 13, 3) := by decide +kernel
theorem dX12_act_22 : decode cX12_act 22 = .ok (.aload_n 0, 1) := by decide +kernel
theorem dX12_act_23 : decode cX12_act 23 = .ok (.dup, 1) := by decide +kernel
theorem dX12_act_24 : decode cX12_act 24 = .ok (.getfield 44, 3) := by decide +kernel
theorem dX12_act_27 : decode cX12_act 27 = .ok (.iconst 1, 1) := by decide +kernel
theorem dX12_act_28 : decode cX12_act 28 = .ok (.isub, 1) := by decide +kernel
theorem dX12_act_29 : decode cX12_act 29 = .ok (.putfield 44, 3) := by decide +kernel
theorem dX12_act_32 : decode cX12_act 32 = .ok (.aload_n 0, 1) := by decide +kernel
theorem dX12_act_33 : decode cX12_act 33 = .ok (.dup, 1) := by decide +kernel
theorem dX12_act_34 : decode cX12_act 34 = .ok (.getfield 55, 3) := by decide +kernel
theorem dX12_act_37 : decode cX12_act 37 = .ok (.iconst 1, 1) := by decide +kernel
theorem dX12_act_38 : decode cX12_act 38 = .ok (.iadd, 1) := by decide +kernel
theorem dX12_act_39 : decode cX12_act 39 = .ok (.putfield 55, 3) := by decide +kernel
theorem dX12_act_42 : decode cX12_act 42 = .ok (.return_, 1) := by decide +kernel
set_option maxRecDepth 100000 in
set_option maxHeartbeats 1000000 in
theorem j_X12_act_32 {p : Program} {l : Launch} {e : Env} {s : State} {m : MethodId} {args : Array Value} {below : List Frame} {meth : Method} {c : Code} {D : va_G} {aC : Nat → ClassId} {b0 fu : Nat} {σ0 τ : tM} {v : (Unit) ⊕ Unit}  (C : tCx p l s m args meth c yX12_act.cls cX12_act 1 none D aC b0 σ0) (htab : ∀ x ∈ c.exceptionTable.toList, False) (hin : meth.name = yX12_act.name)  {x0 : Nat} {σ : tM} (hm : J_X12_act_32 b0 fu  x0 σ = some (v, τ)) : tX p l e s m args below meth c 1 1 21 D aC b0 σ0 (rxV "SyncTreeModel$Off" v) τ 32 [(0, .ref (x0))] [] σ := by
  unfold J_X12_act_32 at hm
  refine zx_aload_n C dX12_act_32 0 rfl ?_
  refine zx_dup C dX12_act_33 rfl ?_
  obtain ⟨k5, i6, hm⟩ := ckO_e hm
  refine zx_get (j := 20) C tC_11 k5 i6 ⟨by decide, Or.inl W_6_239⟩ dX12_act_34 (.int (tI (σ) (x0) 20)) rfl ?_
  refine zx_iconst (v := 1) C dX12_act_37 (by decide) ?_
  refine zx_iadd C dX12_act_38 ?_
  refine zx_put (j := 20) (ρ := sI (σ) (x0) 20 ((tI (σ) (x0) 20) + (1))) C tC_11 k5 i6 ⟨by decide, Or.inl W_6_239⟩ rfl rfl rfl (sI_ok (fun _ => rfl)) dX12_act_39 ?_
  obtain ⟨rfl, rfl⟩ := ret_e hm
  exact zx_vret C rfl rfl rfl dX12_act_42
set_option maxRecDepth 100000 in
set_option maxHeartbeats 1000000 in
theorem c_X12_act {l : Launch} {D : va_G} {aC : Nat → ClassId} {b0 fu : Nat} {a0 : Nat} {σ τ : tM} {v : (Unit) ⊕ Unit} (hm : m_X12_act b0 fu a0 σ = some (v, τ)) : tMt l D aC b0 yX12_act (Cond.code yX12_act cX12_act 1 none) 1 21 [.ref (a0)] σ (rxV "SyncTreeModel$Off" v) τ := by
  unfold m_X12_act at hm
  obtain ⟨hg, hm⟩ := grw_e hm
  refine tMt_of (n := 0) rfl (Nat.le_of_ble_eq_true rfl) hg ?_
  intro p e s m below meth c C htab hin
  refine zx_lv [0] [(0, .ref (a0))] rfl ?_
  refine zx_aload_n C dX12_act_0 0 rfl ?_
  obtain ⟨k1, i2, hm⟩ := ckO_e hm
  refine zx_get (j := 19) C tC_11 k1 i2 ⟨by decide, Or.inl W_6_238⟩ dX12_act_1 (.int (tI (σ) (a0) 19)) rfl ?_
  refine zx_if_ne C 15 dX12_act_4 (by decide) (fun c3 => ?_) (fun c3 => ?_)
  · replace hm := in_e hm c3
    refine zx_aload_n C dX12_act_15 0 rfl ?_
    refine zx_get (j := 19) C tC_11 k1 i2 ⟨by decide, Or.inl W_6_238⟩ dX12_act_16 (.int (tI (σ) (a0) 19)) rfl ?_
    refine zx_if_le C 32 dX12_act_19 (by decide) (fun c4 => ?_) (fun c4 => ?_)
    · replace hm := ip_e hm c4
      exact zx_lv [0] [(0, .ref (a0))] rfl (j_X12_act_32 C htab hin    hm)
    · replace hm := in_e hm c4
      refine zx_aload_n C dX12_act_22 0 rfl ?_
      refine zx_dup C dX12_act_23 rfl ?_
      refine zx_get (j := 19) C tC_11 k1 i2 ⟨by decide, Or.inl W_6_238⟩ dX12_act_24 (.int (tI (σ) (a0) 19)) rfl ?_
      refine zx_iconst (v := 1) C dX12_act_27 (by decide) ?_
      refine zx_isub C dX12_act_28 ?_
      refine zx_put (j := 19) (ρ := sI (σ) (a0) 19 ((tI (σ) (a0) 19) - (1))) C tC_11 k1 i2 ⟨by decide, Or.inl W_6_238⟩ rfl rfl rfl (sI_ok (fun _ => rfl)) dX12_act_29 ?_
      exact zx_lv [0] [(0, .ref (a0))] rfl (j_X12_act_32 C htab hin    hm)
  · replace hm := ip_e hm c3
    refine zx_aload_n C dX12_act_7 0 rfl ?_
    obtain ⟨v7, ρ8, h9, hm⟩ := cll_e hm
    refine zx_callV (σ := σ) C [] tC_11 k1 i2 Y_X12_powerOff W_7_220 W_7_222 Wp_66 (c_X12_powerOff h9) (by decide) (by decide) rfl (Nat.le_of_ble_eq_true rfl) dX12_act_8 rfl ?_
    obtain ⟨rfl, rfl⟩ := ret_e hm
    exact zx_off C htab W_7_183 dX12_act_11 dX12_act_14 rfl rfl
