abbrev cX1_collect : ByteArray := prog_3_method_13_code
def yX1_collect : MethodName := ⟨"SyncTree$Journal", "collect", "(LSyncTree$Transaction;)V"⟩
theorem Y_X1_collect : tY yX1_collect cX1_collect 6 none 1 := ⟨W_4_56, W_1_5, ⟨by decide +kernel, by decide +kernel⟩, by decide +kernel⟩
theorem dX1_collect_0 : decode cX1_collect 0 = .ok (.iconst 0, 1) := by decide +kernel
theorem dX1_collect_1 : decode cX1_collect 1 = .ok (.istore_n 2, 1) := by decide +kernel
theorem dX1_collect_2 : decode cX1_collect 2 = .ok (.iconst 0, 1) := by decide +kernel
theorem dX1_collect_3 : decode cX1_collect 3 = .ok (.istore_n 3, 1) := by decide +kernel
theorem dX1_collect_4 : decode cX1_collect 4 = .ok (.iconst 1, 1) := by decide +kernel
theorem dX1_collect_5 : decode cX1_collect 5 = .ok (.istore 4, 2) := by decide +kernel
theorem dX1_collect_7 : decode cX1_collect 7 = .ok (.iload 4, 2) := by decide +kernel
theorem dX1_collect_9 : decode cX1_collect 9 = .ok (.aload_n 0, 1) := by decide +kernel
theorem dX1_collect_10 : decode cX1_collect 10 = .ok (.getfield 25, 3) := by decide +kernel
theorem dX1_collect_13 : decode cX1_collect 13 = .ok (.getfield 36, 3) := by decide +kernel
theorem dX1_collect_16 : decode cX1_collect 16 = .ok (.if_icmp .ge 116, 3) := by decide +kernel
theorem dX1_collect_19 : decode cX1_collect 19 = .ok (.iload_n 2, 1) := by decide +kernel
theorem dX1_collect_20 : decode cX1_collect 20 = .ok (.aload_n 1, 1) := by decide +kernel
theorem dX1_collect_21 : decode cX1_collect 21 = .ok (.getfield 157, 3) := by decide +kernel
theorem dX1_collect_24 : decode cX1_collect 24 = .ok (.arraylength, 1) := by decide +kernel
theorem dX1_collect_25 : decode cX1_collect 25 = .ok (.if_icmp .lt 12, 3) := by decide +kernel
theorem dX1_collect_28 : decode cX1_collect 28 = .ok (.iload_n 3, 1) := by decide +kernel
theorem dX1_collect_29 : decode cX1_collect 29 = .ok (.aload_n 1, 1) := by decide +kernel
theorem dX1_collect_30 : decode cX1_collect 30 = .ok (.getfield 161, 3) := by decide +kernel
theorem dX1_collect_33 : decode cX1_collect 33 = .ok (.arraylength, 1) := by decide +kernel
theorem dX1_collect_34 : decode cX1_collect 34 = .ok (.if_icmp .ge 98, 3) := by decide +kernel
theorem dX1_collect_37 : decode cX1_collect 37 = .ok (.aload_n 0, 1) := by decide +kernel
theorem dX1_collect_38 : decode cX1_collect 38 = .ok (.getfield 25, 3) := by decide +kernel
theorem dX1_collect_41 : decode cX1_collect 41 = .ok (.iload 4, 2) := by decide +kernel
theorem dX1_collect_43 : decode cX1_collect 43 = .ok (.invokevirtual 164, 3) := by decide +kernel
theorem dX1_collect_46 : decode cX1_collect 46 = .ok (.ifCond .eq 48, 3) := by decide +kernel
theorem dX1_collect_49 : decode cX1_collect 49 = .ok (.iload_n 2, 1) := by decide +kernel
theorem dX1_collect_50 : decode cX1_collect 50 = .ok (.aload_n 1, 1) := by decide +kernel
theorem dX1_collect_51 : decode cX1_collect 51 = .ok (.getfield 157, 3) := by decide +kernel
theorem dX1_collect_54 : decode cX1_collect 54 = .ok (.arraylength, 1) := by decide +kernel
theorem dX1_collect_55 : decode cX1_collect 55 = .ok (.if_icmp .ge 39, 3) := by decide +kernel
theorem dX1_collect_58 : decode cX1_collect 58 = .ok (.aload_n 0, 1) := by decide +kernel
theorem dX1_collect_59 : decode cX1_collect 59 = .ok (.invokevirtual 59, 3) := by decide +kernel
theorem dX1_collect_62 : decode cX1_collect 62 = .ok (.astore 5, 2) := by decide +kernel
theorem dX1_collect_64 : decode cX1_collect 64 = .ok (.aload_n 0, 1) := by decide +kernel
theorem dX1_collect_65 : decode cX1_collect 65 = .ok (.getfield 25, 3) := by decide +kernel
theorem dX1_collect_68 : decode cX1_collect 68 = .ok (.iload 4, 2) := by decide +kernel
theorem dX1_collect_70 : decode cX1_collect 70 = .ok (.aload 5, 2) := by decide +kernel
theorem dX1_collect_72 : decode cX1_collect 72 = .ok (.invokevirtual 63, 3) := by decide +kernel
theorem dX1_collect_75 : decode cX1_collect 75 = .ok (.aload_n 1, 1) := by decide +kernel
theorem dX1_collect_76 : decode cX1_collect 76 = .ok (.getfield 157, 3) := by decide +kernel
theorem dX1_collect_79 : decode cX1_collect 79 = .ok (.iload_n 2, 1) := by decide +kernel
theorem dX1_collect_80 : decode cX1_collect 80 = .ok (.iload 4, 2) := by decide +kernel
theorem dX1_collect_82 : decode cX1_collect 82 = .ok (.iastore, 1) := by decide +kernel
theorem dX1_collect_83 : decode cX1_collect 83 = .ok (.aload_n 1, 1) := by decide +kernel
theorem dX1_collect_84 : decode cX1_collect 84 = .ok (.getfield 168, 3) := by decide +kernel
theorem dX1_collect_87 : decode cX1_collect 87 = .ok (.iload_n 2, 1) := by decide +kernel
theorem dX1_collect_88 : decode cX1_collect 88 = .ok (.aload 5, 2) := by decide +kernel
theorem dX1_collect_90 : decode cX1_collect 90 = .ok (.aastore, 1) := by decide +kernel
theorem dX1_collect_91 : decode cX1_collect 91 = .ok (.iinc 2 1, 3) := by decide +kernel
theorem dX1_collect_94 : decode cX1_collect 94 = .ok (.aload_n 0, 1) := by decide +kernel
theorem dX1_collect_95 : decode cX1_collect 95 = .ok (.getfield 25, 3) := by decide +kernel
theorem dX1_collect_98 : decode cX1_collect 98 = .ok (.iload 4, 2) := by decide +kernel
theorem dX1_collect_100 : decode cX1_collect 100 = .ok (.invokevirtual 171, 3) := by decide +kernel
theorem dX1_collect_103 : decode cX1_collect 103 = .ok (.ifCond .eq 23, 3) := by decide +kernel
theorem dX1_collect_106 : decode cX1_collect 106 = .ok (.iload_n 3, 1) := by decide +kernel
theorem dX1_collect_107 : decode cX1_collect 107 = .ok (.aload_n 1, 1) := by decide +kernel
theorem dX1_collect_108 : decode cX1_collect 108 = .ok (.getfield 161, 3) := by decide +kernel
theorem dX1_collect_111 : decode cX1_collect 111 = .ok (.arraylength, 1) := by decide +kernel
theorem dX1_collect_112 : decode cX1_collect 112 = .ok (.if_icmp .ge 14, 3) := by decide +kernel
theorem dX1_collect_115 : decode cX1_collect 115 = .ok (.aload_n 1, 1) := by decide +kernel
theorem dX1_collect_116 : decode cX1_collect 116 = .ok (.getfield 161, 3) := by decide +kernel
theorem dX1_collect_119 : decode cX1_collect 119 = .ok (.iload_n 3, 1) := by decide +kernel
theorem dX1_collect_120 : decode cX1_collect 120 = .ok (.iload 4, 2) := by decide +kernel
theorem dX1_collect_122 : decode cX1_collect 122 = .ok (.iastore, 1) := by decide +kernel
theorem dX1_collect_123 : decode cX1_collect 123 = .ok (.iinc 3 1, 3) := by decide +kernel
theorem dX1_collect_126 : decode cX1_collect 126 = .ok (.iinc 4 1, 3) := by decide +kernel
theorem dX1_collect_129 : decode cX1_collect 129 = .ok (.goto (-122), 3) := by decide +kernel
theorem dX1_collect_132 : decode cX1_collect 132 = .ok (.return_, 1) := by decide +kernel
set_option maxRecDepth 100000 in
set_option maxHeartbeats 1000000 in
theorem j_X1_collect_132 {p : Program} {l : Launch} {e : Env} {s : State} {m : MethodId} {args : Array Value} {below : List Frame} {meth : Method} {c : Code} {D : va_G} {aC : Nat → ClassId} {b0 fu : Nat} {σ0 τ : tM} {v : Unit}  (C : tCx p l s m args meth c yX1_collect.cls cX1_collect 6 none D aC b0 σ0) (htab : ∀ x ∈ c.exceptionTable.toList, False) (hin : meth.name = yX1_collect.name)   {σ : tM} (hm : J_X1_collect_132 b0 fu   σ = some (v, τ)) : tX p l e s m args below meth c 6 3 61 D aC b0 σ0 (.inl none) τ 132 [] [] σ := by
  unfold J_X1_collect_132 at hm
  obtain ⟨rfl, rfl⟩ := ret_e hm
  exact zx_vret C rfl rfl rfl dX1_collect_132
set_option maxRecDepth 100000 in
set_option maxHeartbeats 1000000 in
theorem j_X1_collect_126 {p : Program} {l : Launch} {e : Env} {s : State} {m : MethodId} {args : Array Value} {below : List Frame} {meth : Method} {c : Code} {D : va_G} {aC : Nat → ClassId} {b0 fu : Nat} {σ0 τ : tM} {v : Unit} {rc7 : Nat → Option Nat → Int32 → Int32 → Int32 → tM → Option ((Unit) × tM)} (C : tCx p l s m args meth c yX1_collect.cls cX1_collect 6 none D aC b0 σ0) (htab : ∀ x ∈ c.exceptionTable.toList, False) (hin : meth.name = yX1_collect.name) (hrc7 : ∀ (x0 : Nat) (x1 : Option Nat) (x2 : Int32) (x3 : Int32) (x4 : Int32) (ρ : tM), rc7 x0 x1 x2 x3 x4 ρ = some (v, τ) → tX p l e s m args below meth c 6 3 61 D aC b0 σ0 (.inl none) τ 7 [(0, .ref (x0)), (1, va_rf (x1)), (2, .int (x2)), (3, .int (x3)), (4, .int (x4))] [] ρ) {x0 : Nat} {x1 : Option Nat} {x2 : Int32} {x3 : Int32} {x4 : Int32} {σ : tM} (hm : J_X1_collect_126 b0 fu rc7 x0 x1 x2 x3 x4 σ = some (v, τ)) : tX p l e s m args below meth c 6 3 61 D aC b0 σ0 (.inl none) τ 126 [(0, .ref (x0)), (1, va_rf (x1)), (2, .int (x2)), (3, .int (x3)), (4, .int (x4))] [] σ := by
  unfold J_X1_collect_126 at hm
  obtain ⟨y38, hy38⟩ : ∃ z : Int32, z = (x4) + Int32.ofInt 1 := ⟨_, rfl⟩
  replace hm := ltb_e hm hy38
  refine zx_iinc C [(4, .int (y38)), (0, .ref (x0)), (1, va_rf (x1)), (2, .int (x2)), (3, .int (x3))] dX1_collect_126 4 rfl hy38.symm (by decide) rfl ?_
  refine zx_goto C 7 dX1_collect_129 (by decide) ?_
  exact zx_lv [1, 2, 3, 4, 0] [(0, .ref (x0)), (1, va_rf (x1)), (2, .int (x2)), (3, .int (x3)), (4, .int (y38))] rfl (hrc7 _ _ _ _ _ _ hm)
set_option maxRecDepth 100000 in
set_option maxHeartbeats 1000000 in
theorem j_X1_collect_94 {p : Program} {l : Launch} {e : Env} {s : State} {m : MethodId} {args : Array Value} {below : List Frame} {meth : Method} {c : Code} {D : va_G} {aC : Nat → ClassId} {b0 fu : Nat} {σ0 τ : tM} {v : Unit} {rc7 : Nat → Option Nat → Int32 → Int32 → Int32 → tM → Option ((Unit) × tM)} (C : tCx p l s m args meth c yX1_collect.cls cX1_collect 6 none D aC b0 σ0) (htab : ∀ x ∈ c.exceptionTable.toList, False) (hin : meth.name = yX1_collect.name) (hrc7 : ∀ (x0 : Nat) (x1 : Option Nat) (x2 : Int32) (x3 : Int32) (x4 : Int32) (ρ : tM), rc7 x0 x1 x2 x3 x4 ρ = some (v, τ) → tX p l e s m args below meth c 6 3 61 D aC b0 σ0 (.inl none) τ 7 [(0, .ref (x0)), (1, va_rf (x1)), (2, .int (x2)), (3, .int (x3)), (4, .int (x4))] [] ρ) {x0 : Nat} {x1 : Option Nat} {x2 : Int32} {x3 : Int32} {x4 : Int32} {σ : tM} (hm : J_X1_collect_94 b0 fu rc7 x0 x1 x2 x3 x4 σ = some (v, τ)) : tX p l e s m args below meth c 6 3 61 D aC b0 σ0 (.inl none) τ 94 [(0, .ref (x0)), (1, va_rf (x1)), (2, .int (x2)), (3, .int (x3)), (4, .int (x4))] [] σ := by
  unfold J_X1_collect_94 at hm
  refine zx_aload_n C dX1_collect_94 0 rfl ?_
  obtain ⟨k28, i29, hm⟩ := ckO_e hm
  obtain ⟨a30, h31, hm⟩ := osm_e hm
  refine zx_get (j := 1) C tC_1 k28 i29 ⟨by decide, Or.inl W_1_181⟩ dX1_collect_95 (.ref a30) (rf_s h31) ?_
  refine zx_iload C dX1_collect_98 4 rfl ?_
  obtain ⟨k32, i33, hm⟩ := ckO_e hm
  obtain ⟨v34, ρ35, h36, hm⟩ := cll_e hm
  refine zx_callV (σ := σ) C [.int (x4)] tC_5 k32 i33 Y_X5_isRevoked W_4_61 W_4_62 W_4_63 (c_X5_isRevoked h36) (by decide) (by decide) rfl (Nat.le_of_ble_eq_true rfl) dX1_collect_100 rfl ?_
  refine zx_if_eq C 126 dX1_collect_103 (by decide) (fun c37 => ?_) (fun c37 => ?_)
  · replace hm := ip_e hm c37
    exact zx_lv [0, 1, 2, 3, 4] [(0, .ref (x0)), (1, va_rf (x1)), (2, .int (x2)), (3, .int (x3)), (4, .int (x4))] rfl (j_X1_collect_126 C htab hin hrc7   hm)
  · replace hm := in_e hm c37
    refine zx_iload_n C dX1_collect_106 3 rfl ?_
    rcases omt_e hm with ⟨o39, h40, hm⟩ | ⟨h40, hm⟩
    · refine zx_lv [0, 1, 2, 3, 4] [(0, .ref (x0)), (1, .ref (o39)), (2, .int (x2)), (3, .int (x3)), (4, .int (x4))] (by rw [h40]; rfl) ?_
      refine zx_aload_n C dX1_collect_107 1 rfl ?_
      obtain ⟨k41, i42, hm⟩ := ckO_e hm
      obtain ⟨a43, h44, hm⟩ := osm_e hm
      refine zx_get (j := 6) C tC_7 k41 i42 ⟨by decide, Or.inr ⟨_, W_4_34⟩⟩ dX1_collect_108 (.ref a43) (rf_s h44) ?_
      obtain ⟨n47, k45, i46, hm⟩ := ckR_e hm
      refine zx_alen C k45 (by decide) i46 dX1_collect_111 ?_
      refine zx_icmp_ge C 126 dX1_collect_112 (by decide) (fun c48 => ?_) (fun c48 => ?_)
      · replace hm := ip_e hm c48
        exact zx_lv [0, 1, 2, 3, 4] [(0, .ref (x0)), (1, va_rf (some (o39))), (2, .int (x2)), (3, .int (x3)), (4, .int (x4))] rfl (j_X1_collect_126 C htab hin hrc7   hm)
      · replace hm := in_e hm c48
        refine zx_aload_n C dX1_collect_115 1 rfl ?_
        obtain ⟨a49, h50, hm⟩ := osm_e hm
        refine zx_get (j := 6) C tC_7 k41 i42 ⟨by decide, Or.inr ⟨_, W_4_34⟩⟩ dX1_collect_116 (.ref a49) (rf_s h50) ?_
        refine zx_iload_n C dX1_collect_119 3 rfl ?_
        refine zx_iload C dX1_collect_120 4 rfl ?_
        obtain ⟨n53, k51, i52, hm⟩ := ckR_e hm
        obtain ⟨h54, hm⟩ := ckI_e hm
        refine zx_iast C k51 i52 h54 dX1_collect_122 ?_
        obtain ⟨y55, hy55⟩ : ∃ z : Int32, z = (x3) + Int32.ofInt 1 := ⟨_, rfl⟩
        replace hm := ltb_e hm hy55
        refine zx_iinc C [(3, .int (y55)), (0, .ref (x0)), (1, .ref (o39)), (2, .int (x2)), (4, .int (x4))] dX1_collect_123 3 rfl hy55.symm (by decide) rfl ?_
        exact zx_lv [1, 2, 3, 0, 4] [(0, .ref (x0)), (1, va_rf (some (o39))), (2, .int (x2)), (3, .int (y55)), (4, .int (x4))] rfl (j_X1_collect_126 C htab hin hrc7   hm)
    · refine zx_lv [0, 1, 2, 3, 4] [(0, .ref (x0)), (1, .null), (2, .int (x2)), (3, .int (x3)), (4, .int (x4))] (by rw [h40]; rfl) ?_
      refine zx_aload_nN C dX1_collect_107 1 rfl ?_
      cases hm
set_option maxRecDepth 100000 in
set_option maxHeartbeats 1000000 in
theorem j_X1_collect_37 {p : Program} {l : Launch} {e : Env} {s : State} {m : MethodId} {args : Array Value} {below : List Frame} {meth : Method} {c : Code} {D : va_G} {aC : Nat → ClassId} {b0 fu : Nat} {σ0 τ : tM} {v : Unit} {rc7 : Nat → Option Nat → Int32 → Int32 → Int32 → tM → Option ((Unit) × tM)} (C : tCx p l s m args meth c yX1_collect.cls cX1_collect 6 none D aC b0 σ0) (htab : ∀ x ∈ c.exceptionTable.toList, False) (hin : meth.name = yX1_collect.name) (hrc7 : ∀ (x0 : Nat) (x1 : Option Nat) (x2 : Int32) (x3 : Int32) (x4 : Int32) (ρ : tM), rc7 x0 x1 x2 x3 x4 ρ = some (v, τ) → tX p l e s m args below meth c 6 3 61 D aC b0 σ0 (.inl none) τ 7 [(0, .ref (x0)), (1, va_rf (x1)), (2, .int (x2)), (3, .int (x3)), (4, .int (x4))] [] ρ) {x0 : Nat} {x1 : Option Nat} {x2 : Int32} {x3 : Int32} {x4 : Int32} {σ : tM} (hm : J_X1_collect_37 b0 fu rc7 x0 x1 x2 x3 x4 σ = some (v, τ)) : tX p l e s m args below meth c 6 3 61 D aC b0 σ0 (.inl none) τ 37 [(0, .ref (x0)), (1, va_rf (x1)), (2, .int (x2)), (3, .int (x3)), (4, .int (x4))] [] σ := by
  unfold J_X1_collect_37 at hm
  refine zx_aload_n C dX1_collect_37 0 rfl ?_
  obtain ⟨k18, i19, hm⟩ := ckO_e hm
  obtain ⟨a20, h21, hm⟩ := osm_e hm
  refine zx_get (j := 1) C tC_1 k18 i19 ⟨by decide, Or.inl W_1_181⟩ dX1_collect_38 (.ref a20) (rf_s h21) ?_
  refine zx_iload C dX1_collect_41 4 rfl ?_
  obtain ⟨k22, i23, hm⟩ := ckO_e hm
  obtain ⟨v24, ρ25, h26, hm⟩ := cll_e hm
  refine zx_callV (σ := σ) C [.int (x4)] tC_5 k22 i23 Y_X5_isTouched W_4_57 W_4_58 W_4_59 (c_X5_isTouched h26) (by decide) (by decide) rfl (Nat.le_of_ble_eq_true rfl) dX1_collect_43 rfl ?_
  refine zx_if_eq C 94 dX1_collect_46 (by decide) (fun c27 => ?_) (fun c27 => ?_)
  · replace hm := ip_e hm c27
    exact zx_lv [0, 1, 2, 3, 4] [(0, .ref (x0)), (1, va_rf (x1)), (2, .int (x2)), (3, .int (x3)), (4, .int (x4))] rfl (j_X1_collect_94 C htab hin hrc7   hm)
  · replace hm := in_e hm c27
    refine zx_iload_n C dX1_collect_49 2 rfl ?_
    rcases omt_e hm with ⟨o56, h57, hm⟩ | ⟨h57, hm⟩
    · refine zx_lv [0, 1, 2, 3, 4] [(0, .ref (x0)), (1, .ref (o56)), (2, .int (x2)), (3, .int (x3)), (4, .int (x4))] (by rw [h57]; rfl) ?_
      refine zx_aload_n C dX1_collect_50 1 rfl ?_
      obtain ⟨k58, i59, hm⟩ := ckO_e hm
      obtain ⟨a60, h61, hm⟩ := osm_e hm
      refine zx_get (j := 4) C tC_7 k58 i59 ⟨by decide, Or.inr ⟨_, W_4_30⟩⟩ dX1_collect_51 (.ref a60) (rf_s h61) ?_
      obtain ⟨n64, k62, i63, hm⟩ := ckR_e hm
      refine zx_alen C k62 (by decide) i63 dX1_collect_54 ?_
      refine zx_icmp_ge C 94 dX1_collect_55 (by decide) (fun c65 => ?_) (fun c65 => ?_)
      · replace hm := ip_e hm c65
        exact zx_lv [0, 1, 2, 3, 4] [(0, .ref (x0)), (1, va_rf (some (o56))), (2, .int (x2)), (3, .int (x3)), (4, .int (x4))] rfl (j_X1_collect_94 C htab hin hrc7   hm)
      · replace hm := in_e hm c65
        refine zx_aload_n C dX1_collect_58 0 rfl ?_
        obtain ⟨k66, i67, hm⟩ := ckO_e hm
        obtain ⟨v68, ρ69, h70, hm⟩ := cll_e hm
        rcases omt_e hm with ⟨a71, h72, hm⟩ | ⟨h72, hm⟩
        · subst h72
          refine zx_callV (σ := ρ25) C [] tC_1 k66 i67 Y_X1_takeRow W_2_180 W_2_182 Wp_9 (c_X1_takeRow h70) (by decide) (by decide) rfl (Nat.le_of_ble_eq_true rfl) dX1_collect_59 rfl ?_
          refine zx_astore C [(5, .ref (a71)), (0, .ref (x0)), (1, .ref (o56)), (2, .int (x2)), (3, .int (x3)), (4, .int (x4))] dX1_collect_62 (by decide) rfl ?_
          refine zx_aload_n C dX1_collect_64 1 rfl ?_
          obtain ⟨k73, i74, hm⟩ := ckO_e hm
          obtain ⟨a75, h76, hm⟩ := osm_e hm
          refine zx_get (j := 1) C tC_1 k73 i74 ⟨by decide, Or.inl W_1_181⟩ dX1_collect_65 (.ref a75) (rf_s h76) ?_
          refine zx_iload C dX1_collect_68 5 rfl ?_
          refine zx_aload C dX1_collect_70 0 rfl ?_
          obtain ⟨k77, i78, hm⟩ := ckO_e hm
          obtain ⟨v79, ρ80, h81, hm⟩ := cll_e hm
          refine zx_callV (σ := ρ69) C [.int (x4), va_rf (some (a71))] tC_5 k77 i78 Y_X5_save W_2_198 W_2_199 W_2_200 (c_X5_save h81) (by decide) (by decide) rfl (Nat.le_of_ble_eq_true rfl) dX1_collect_72 rfl ?_
          refine zx_aload_n C dX1_collect_75 2 rfl ?_
          obtain ⟨k82, i83, hm⟩ := ckO_e hm
          obtain ⟨a84, h85, hm⟩ := osm_e hm
          refine zx_get (j := 4) C tC_7 k82 i83 ⟨by decide, Or.inr ⟨_, W_4_30⟩⟩ dX1_collect_76 (.ref a84) (rf_s h85) ?_
          refine zx_iload_n C dX1_collect_79 3 rfl ?_
          refine zx_iload C dX1_collect_80 5 rfl ?_
          obtain ⟨n88, k86, i87, hm⟩ := ckR_e hm
          obtain ⟨h89, hm⟩ := ckI_e hm
          refine zx_iast C k86 i87 h89 dX1_collect_82 ?_
          refine zx_aload_n C dX1_collect_83 2 rfl ?_
          obtain ⟨a90, h91, hm⟩ := osm_e hm
          refine zx_get (j := 5) C tC_7 k82 i83 ⟨by decide, Or.inr ⟨_, W_4_32⟩⟩ dX1_collect_84 (.ref a90) (rf_s h91) ?_
          refine zx_iload_n C dX1_collect_87 3 rfl ?_
          refine zx_aload C dX1_collect_88 0 rfl ?_
          obtain ⟨n94, k92, i93, hm⟩ := ckR_e hm
          obtain ⟨h95, hm⟩ := ckI_e hm
          obtain ⟨k96, i97, hm⟩ := ckO_e hm
          refine zx_ast C k92 i93 k96 i97 h95 dX1_collect_90 ?_
          obtain ⟨y98, hy98⟩ : ∃ z : Int32, z = (x2) + Int32.ofInt 1 := ⟨_, rfl⟩
          replace hm := ltb_e hm hy98
          refine zx_iinc C [(2, .int (y98)), (5, .ref (a71)), (0, .ref (x0)), (1, .ref (o56)), (3, .int (x3)), (4, .int (x4))] dX1_collect_91 3 rfl hy98.symm (by decide) rfl ?_
          exact zx_lv [2, 3, 0, 4, 5] [(0, .ref (x0)), (1, va_rf (some (o56))), (2, .int (y98)), (3, .int (x3)), (4, .int (x4))] rfl (j_X1_collect_94 C htab hin hrc7   hm)
        · subst h72
          refine zx_callV (σ := ρ25) C [] tC_1 k66 i67 Y_X1_takeRow W_2_180 W_2_182 Wp_9 (c_X1_takeRow h70) (by decide) (by decide) rfl (Nat.le_of_ble_eq_true rfl) dX1_collect_59 rfl ?_
          refine zx_astoreN C [(5, .null), (0, .ref (x0)), (1, .ref (o56)), (2, .int (x2)), (3, .int (x3)), (4, .int (x4))] dX1_collect_62 (by decide) rfl ?_
          refine zx_aload_n C dX1_collect_64 1 rfl ?_
          obtain ⟨k99, i100, hm⟩ := ckO_e hm
          obtain ⟨a101, h102, hm⟩ := osm_e hm
          refine zx_get (j := 1) C tC_1 k99 i100 ⟨by decide, Or.inl W_1_181⟩ dX1_collect_65 (.ref a101) (rf_s h102) ?_
          refine zx_iload C dX1_collect_68 5 rfl ?_
          refine zx_aloadN C dX1_collect_70 0 rfl ?_
          obtain ⟨k103, i104, hm⟩ := ckO_e hm
          obtain ⟨v105, ρ106, h107, hm⟩ := cll_e hm
          refine zx_callV (σ := ρ69) C [.int (x4), va_rf (none)] tC_5 k103 i104 Y_X5_save W_2_198 W_2_199 W_2_200 (c_X5_save h107) (by decide) (by decide) rfl (Nat.le_of_ble_eq_true rfl) dX1_collect_72 rfl ?_
          refine zx_aload_n C dX1_collect_75 2 rfl ?_
          obtain ⟨k108, i109, hm⟩ := ckO_e hm
          obtain ⟨a110, h111, hm⟩ := osm_e hm
          refine zx_get (j := 4) C tC_7 k108 i109 ⟨by decide, Or.inr ⟨_, W_4_30⟩⟩ dX1_collect_76 (.ref a110) (rf_s h111) ?_
          refine zx_iload_n C dX1_collect_79 3 rfl ?_
          refine zx_iload C dX1_collect_80 5 rfl ?_
          obtain ⟨n114, k112, i113, hm⟩ := ckR_e hm
          obtain ⟨h115, hm⟩ := ckI_e hm
          refine zx_iast C k112 i113 h115 dX1_collect_82 ?_
          refine zx_aload_n C dX1_collect_83 2 rfl ?_
          obtain ⟨a116, h117, hm⟩ := osm_e hm
          refine zx_get (j := 5) C tC_7 k108 i109 ⟨by decide, Or.inr ⟨_, W_4_32⟩⟩ dX1_collect_84 (.ref a116) (rf_s h117) ?_
          refine zx_iload_n C dX1_collect_87 3 rfl ?_
          refine zx_aloadN C dX1_collect_88 0 rfl ?_
          obtain ⟨n120, k118, i119, hm⟩ := ckR_e hm
          obtain ⟨h121, hm⟩ := ckI_e hm
          refine zx_astN C k118 i119 h121 dX1_collect_90 ?_
          obtain ⟨y122, hy122⟩ : ∃ z : Int32, z = (x2) + Int32.ofInt 1 := ⟨_, rfl⟩
          replace hm := ltb_e hm hy122
          refine zx_iinc C [(2, .int (y122)), (5, .null), (0, .ref (x0)), (1, .ref (o56)), (3, .int (x3)), (4, .int (x4))] dX1_collect_91 3 rfl hy122.symm (by decide) rfl ?_
          exact zx_lv [2, 3, 0, 4, 5] [(0, .ref (x0)), (1, va_rf (some (o56))), (2, .int (y122)), (3, .int (x3)), (4, .int (x4))] rfl (j_X1_collect_94 C htab hin hrc7   hm)
    · refine zx_lv [0, 1, 2, 3, 4] [(0, .ref (x0)), (1, .null), (2, .int (x2)), (3, .int (x3)), (4, .int (x4))] (by rw [h57]; rfl) ?_
      refine zx_aload_nN C dX1_collect_50 1 rfl ?_
      cases hm
set_option maxRecDepth 100000 in
set_option maxHeartbeats 1000000 in
theorem l_X1_collect_7 {p : Program} {l : Launch} {e : Env} {s : State} {m : MethodId} {args : Array Value} {below : List Frame} {meth : Method} {c : Code} {D : va_G} {aC : Nat → ClassId} {b0 fu : Nat} {σ0 τ : tM} {v : Unit}  (C : tCx p l s m args meth c yX1_collect.cls cX1_collect 6 none D aC b0 σ0) (htab : ∀ x ∈ c.exceptionTable.toList, False) (hin : meth.name = yX1_collect.name)  : ∀ (n : Nat) (x0 : Nat) (x1 : Option Nat) (x2 : Int32) (x3 : Int32) (x4 : Int32) (σ : tM), L_X1_collect_7 b0 fu  n x0 x1 x2 x3 x4 σ = some (v, τ) → tX p l e s m args below meth c 6 3 61 D aC b0 σ0 (.inl none) τ 7 [(0, .ref (x0)), (1, va_rf (x1)), (2, .int (x2)), (3, .int (x3)), (4, .int (x4))] [] σ := by
  intro n
  induction n with
  | zero => intro x0 x1 x2 x3 x4 σ hm; unfold L_X1_collect_7 at hm; cases hm
  | succ n ih =>
    intro x0 x1 x2 x3 x4 σ hm
    unfold L_X1_collect_7 at hm
    obtain ⟨rc7, hrc⟩ : ∃ z, z = L_X1_collect_7 b0 fu  n := ⟨_, rfl⟩
    replace hm := ltb_e hm hrc
    rw [← hrc] at ih
    have hrc7 := ih
    clear ih hrc
    refine zx_iload C dX1_collect_7 4 rfl ?_
    refine zx_aload_n C dX1_collect_9 0 rfl ?_
    obtain ⟨k1, i2, hm⟩ := ckO_e hm
    obtain ⟨a3, h4, hm⟩ := osm_e hm
    refine zx_get (j := 1) C tC_1 k1 i2 ⟨by decide, Or.inl W_1_181⟩ dX1_collect_10 (.ref a3) (rf_s h4) ?_
    obtain ⟨k5, i6, hm⟩ := ckO_e hm
    refine zx_get (j := 7) C tC_5 k5 i6 ⟨by decide, Or.inr ⟨_, W_1_103⟩⟩ dX1_collect_13 (.int (tI (σ) (a3) 7)) rfl ?_
    refine zx_icmp_ge C 132 dX1_collect_16 (by decide) (fun c7 => ?_) (fun c7 => ?_)
    · replace hm := ip_e hm c7
      exact zx_lv [] [] rfl (j_X1_collect_132 C htab hin    hm)
    · replace hm := in_e hm c7
      refine zx_iload_n C dX1_collect_19 2 rfl ?_
      rcases omt_e hm with ⟨o8, h9, hm⟩ | ⟨h9, hm⟩
      · refine zx_lv [0, 1, 2, 3, 4] [(0, .ref (x0)), (1, .ref (o8)), (2, .int (x2)), (3, .int (x3)), (4, .int (x4))] (by rw [h9]; rfl) ?_
        refine zx_aload_n C dX1_collect_20 1 rfl ?_
        obtain ⟨k10, i11, hm⟩ := ckO_e hm
        obtain ⟨a12, h13, hm⟩ := osm_e hm
        refine zx_get (j := 4) C tC_7 k10 i11 ⟨by decide, Or.inr ⟨_, W_4_30⟩⟩ dX1_collect_21 (.ref a12) (rf_s h13) ?_
        obtain ⟨n16, k14, i15, hm⟩ := ckR_e hm
        refine zx_alen C k14 (by decide) i15 dX1_collect_24 ?_
        refine zx_icmp_lt C 37 dX1_collect_25 (by decide) (fun c17 => ?_) (fun c17 => ?_)
        · replace hm := ip_e hm c17
          exact zx_lv [0, 1, 2, 3, 4] [(0, .ref (x0)), (1, va_rf (some (o8))), (2, .int (x2)), (3, .int (x3)), (4, .int (x4))] rfl (j_X1_collect_37 C htab hin hrc7   hm)
        · replace hm := in_e hm c17
          refine zx_iload_n C dX1_collect_28 3 rfl ?_
          refine zx_aload_n C dX1_collect_29 1 rfl ?_
          obtain ⟨a123, h124, hm⟩ := osm_e hm
          refine zx_get (j := 6) C tC_7 k10 i11 ⟨by decide, Or.inr ⟨_, W_4_34⟩⟩ dX1_collect_30 (.ref a123) (rf_s h124) ?_
          obtain ⟨n127, k125, i126, hm⟩ := ckR_e hm
          refine zx_alen C k125 (by decide) i126 dX1_collect_33 ?_
          refine zx_icmp_ge C 132 dX1_collect_34 (by decide) (fun c128 => ?_) (fun c128 => ?_)
          · replace hm := ip_e hm c128
            exact zx_lv [] [] rfl (j_X1_collect_132 C htab hin    hm)
          · replace hm := in_e hm c128
            exact zx_lv [0, 1, 2, 3, 4] [(0, .ref (x0)), (1, va_rf (some (o8))), (2, .int (x2)), (3, .int (x3)), (4, .int (x4))] rfl (j_X1_collect_37 C htab hin hrc7   hm)
      · refine zx_lv [0, 1, 2, 3, 4] [(0, .ref (x0)), (1, .null), (2, .int (x2)), (3, .int (x3)), (4, .int (x4))] (by rw [h9]; rfl) ?_
        refine zx_aload_nN C dX1_collect_20 1 rfl ?_
        cases hm
set_option maxRecDepth 100000 in
set_option maxHeartbeats 1000000 in
theorem c_X1_collect {l : Launch} {D : va_G} {aC : Nat → ClassId} {b0 fu : Nat} {a0 : Nat} {p0 : Nat} {σ τ : tM} {v : Unit} (hm : m_X1_collect b0 fu a0 p0 σ = some (v, τ)) : tMt l D aC b0 yX1_collect (Cond.code yX1_collect cX1_collect 6 none) 3 61 [.ref (a0), .ref (p0)] σ (.inl none) τ := by
  unfold m_X1_collect at hm
  obtain ⟨hg, hm⟩ := grw_e hm
  refine tMt_of (n := 0) rfl (Nat.le_of_ble_eq_true rfl) hg ?_
  intro p e s m below meth c C htab hin
  refine zx_lv [0, 1] [(0, .ref (a0)), (1, .ref (p0))] rfl ?_
  refine zx_iconst (v := 0) C dX1_collect_0 (by decide) ?_
  refine zx_istore_n C [(2, .int (0)), (0, .ref (a0)), (1, .ref (p0))] dX1_collect_1 rfl (by decide) rfl ?_
  refine zx_iconst (v := 0) C dX1_collect_2 (by decide) ?_
  refine zx_istore_n C [(3, .int (0)), (2, .int (0)), (0, .ref (a0)), (1, .ref (p0))] dX1_collect_3 rfl (by decide) rfl ?_
  refine zx_iconst (v := 1) C dX1_collect_4 (by decide) ?_
  refine zx_istore C [(4, .int (1)), (3, .int (0)), (2, .int (0)), (0, .ref (a0)), (1, .ref (p0))] dX1_collect_5 (by decide) rfl ?_
  exact zx_lv [3, 4, 2, 1, 0] [(0, .ref (a0)), (1, va_rf (some (p0))), (2, .int (0)), (3, .int (0)), (4, .int (1))] rfl (l_X1_collect_7 C htab hin  _ _ _ _ _ _ _ hm)
abbrev cX1_isRevokedLater : ByteArray := prog_3_method_19_code
def yX1_isRevokedLater : MethodName := ⟨"SyncTree$Journal", "isRevokedLater", "(LSyncTree$Transaction;I)Z"⟩
theorem Y_X1_isRevokedLater : tY yX1_isRevokedLater cX1_isRevokedLater 4 (some .boolean) 2 := ⟨W_4_0, W_1_5, ⟨by decide +kernel, by decide +kernel⟩, by decide +kernel⟩
theorem dX1_isRevokedLater_0 : decode cX1_isRevokedLater 0 = .ok (.aload_n 1, 1) := by decide +kernel
theorem dX1_isRevokedLater_1 : decode cX1_isRevokedLater 1 = .ok (.getfield 155, 3) := by decide +kernel
theorem dX1_isRevokedLater_4 : decode cX1_isRevokedLater 4 = .ok (.astore_n 3, 1) := by decide +kernel
theorem dX1_isRevokedLater_5 : decode cX1_isRevokedLater 5 = .ok (.aload_n 3, 1) := by decide +kernel
theorem dX1_isRevokedLater_6 : decode cX1_isRevokedLater 6 = .ok (.ifnull 32, 3) := by decide +kernel
theorem dX1_isRevokedLater_9 : decode cX1_isRevokedLater 9 = .ok (.aload_n 3, 1) := by decide +kernel
theorem dX1_isRevokedLater_10 : decode cX1_isRevokedLater 10 = .ok (.getfield 183, 3) := by decide +kernel
theorem dX1_isRevokedLater_13 : decode cX1_isRevokedLater 13 = .ok (.aload_n 0, 1) := by decide +kernel
theorem dX1_isRevokedLater_14 : decode cX1_isRevokedLater 14 = .ok (.getfield 69, 3) := by decide +kernel
theorem dX1_isRevokedLater_17 : decode cX1_isRevokedLater 17 = .ok (.if_icmp .gt 21, 3) := by decide +kernel
theorem dX1_isRevokedLater_20 : decode cX1_isRevokedLater 20 = .ok (.aload_n 3, 1) := by decide +kernel
theorem dX1_isRevokedLater_21 : decode cX1_isRevokedLater 21 = .ok (.iload_n 2, 1) := by decide +kernel
theorem dX1_isRevokedLater_22 : decode cX1_isRevokedLater 22 = .ok (.invokevirtual 206, 3) := by decide +kernel
theorem dX1_isRevokedLater_25 : decode cX1_isRevokedLater 25 = .ok (.ifCond .eq 5, 3) := by decide +kernel
theorem dX1_isRevokedLater_28 : decode cX1_isRevokedLater 28 = .ok (.iconst 1, 1) := by decide +kernel
theorem dX1_isRevokedLater_29 : decode cX1_isRevokedLater 29 = .ok (.ireturn, 1) := by decide +kernel
theorem dX1_isRevokedLater_30 : decode cX1_isRevokedLater 30 = .ok (.aload_n 3, 1) := by decide +kernel
theorem dX1_isRevokedLater_31 : decode cX1_isRevokedLater 31 = .ok (.getfield 155, 3) := by decide +kernel
theorem dX1_isRevokedLater_34 : decode cX1_isRevokedLater 34 = .ok (.astore_n 3, 1) := by decide +kernel
theorem dX1_isRevokedLater_35 : decode cX1_isRevokedLater 35 = .ok (.goto (-30), 3) := by decide +kernel
theorem dX1_isRevokedLater_38 : decode cX1_isRevokedLater 38 = .ok (.iconst 0, 1) := by decide +kernel
theorem dX1_isRevokedLater_39 : decode cX1_isRevokedLater 39 = .ok (.ireturn, 1) := by decide +kernel
set_option maxRecDepth 100000 in
set_option maxHeartbeats 1000000 in
theorem j_X1_isRevokedLater_38 {p : Program} {l : Launch} {e : Env} {s : State} {m : MethodId} {args : Array Value} {below : List Frame} {meth : Method} {c : Code} {D : va_G} {aC : Nat → ClassId} {b0 fu : Nat} {σ0 τ : tM} {v : Int32}  (C : tCx p l s m args meth c yX1_isRevokedLater.cls cX1_isRevokedLater 4 (some .boolean) D aC b0 σ0) (htab : ∀ x ∈ c.exceptionTable.toList, False) (hin : meth.name = yX1_isRevokedLater.name)   {σ : tM} (hm : J_X1_isRevokedLater_38 b0 fu   σ = some (v, τ)) : tX p l e s m args below meth c 4 1 22 D aC b0 σ0 (.inl (some (.int v))) τ 38 [] [] σ := by
  unfold J_X1_isRevokedLater_38 at hm
  refine zx_iconst (v := 0) C dX1_isRevokedLater_38 (by decide) ?_
  obtain ⟨rfl, rfl⟩ := ret_e hm
  exact zx_zret C rfl (by decide) rfl rfl dX1_isRevokedLater_39
set_option maxRecDepth 100000 in
set_option maxHeartbeats 1000000 in
theorem l_X1_isRevokedLater_5 {p : Program} {l : Launch} {e : Env} {s : State} {m : MethodId} {args : Array Value} {below : List Frame} {meth : Method} {c : Code} {D : va_G} {aC : Nat → ClassId} {b0 fu : Nat} {σ0 τ : tM} {v : Int32}  (C : tCx p l s m args meth c yX1_isRevokedLater.cls cX1_isRevokedLater 4 (some .boolean) D aC b0 σ0) (htab : ∀ x ∈ c.exceptionTable.toList, False) (hin : meth.name = yX1_isRevokedLater.name)  : ∀ (n : Nat) (x0 : Nat) (x2 : Int32) (x3 : Option Nat) (σ : tM), L_X1_isRevokedLater_5 b0 fu  n x0 x2 x3 σ = some (v, τ) → tX p l e s m args below meth c 4 1 22 D aC b0 σ0 (.inl (some (.int v))) τ 5 [(0, .ref (x0)), (2, .int (x2)), (3, va_rf (x3))] [] σ := by
  intro n
  induction n with
  | zero => intro x0 x2 x3 σ hm; unfold L_X1_isRevokedLater_5 at hm; cases hm
  | succ n ih =>
    intro x0 x2 x3 σ hm
    unfold L_X1_isRevokedLater_5 at hm
    obtain ⟨rc5, hrc⟩ : ∃ z, z = L_X1_isRevokedLater_5 b0 fu  n := ⟨_, rfl⟩
    replace hm := ltb_e hm hrc
    rw [← hrc] at ih
    have hrc5 := ih
    clear ih hrc
    rcases omt_e hm with ⟨o5, h6, hm⟩ | ⟨h6, hm⟩
    · refine zx_lv [0, 1, 2] [(0, .ref (x0)), (2, .int (x2)), (3, .ref (o5))] (by rw [h6]; rfl) ?_
      refine zx_aload_n C dX1_isRevokedLater_5 2 rfl ?_
      refine zx_ifnull C dX1_isRevokedLater_6 ?_
      refine zx_aload_n C dX1_isRevokedLater_9 2 rfl ?_
      obtain ⟨k7, i8, hm⟩ := ckO_e hm
      refine zx_get (j := 0) C tC_7 k7 i8 ⟨by decide, Or.inr ⟨_, W_4_22⟩⟩ dX1_isRevokedLater_10 (.int (tI (σ) (o5) 0)) rfl ?_
      refine zx_aload_n C dX1_isRevokedLater_13 0 rfl ?_
      obtain ⟨k9, i10, hm⟩ := ckO_e hm
      refine zx_get (j := 13) C tC_1 k9 i10 ⟨by decide, Or.inl W_1_193⟩ dX1_isRevokedLater_14 (.int (tI (σ) (x0) 13)) rfl ?_
      refine zx_icmp_gt C 38 dX1_isRevokedLater_17 (by decide) (fun c11 => ?_) (fun c11 => ?_)
      · replace hm := ip_e hm c11
        exact zx_lv [] [] rfl (j_X1_isRevokedLater_38 C htab hin    hm)
      · replace hm := in_e hm c11
        refine zx_aload_n C dX1_isRevokedLater_20 2 rfl ?_
        refine zx_iload_n C dX1_isRevokedLater_21 1 rfl ?_
        obtain ⟨v12, ρ13, h14, hm⟩ := cll_e hm
        refine zx_callV (σ := σ) C [.int (x2)] tC_7 k7 i8 Y_X7_revokes W_4_1 W_4_2 W_4_3 (c_X7_revokes h14) (by decide) (by decide) rfl (Nat.le_of_ble_eq_true rfl) dX1_isRevokedLater_22 rfl ?_
        refine zx_if_eq C 30 dX1_isRevokedLater_25 (by decide) (fun c15 => ?_) (fun c15 => ?_)
        · replace hm := ip_e hm c15
          refine zx_aload_n C dX1_isRevokedLater_30 2 rfl ?_
          obtain ⟨k16, i17, hm⟩ := ckO_e hm
          rcases omt_e hm with ⟨a18, h19, hm⟩ | ⟨h19, hm⟩
          · refine zx_get (j := 7) C tC_7 k16 i17 ⟨by decide, Or.inr ⟨_, W_4_35⟩⟩ dX1_isRevokedLater_31 (.ref a18) (rf_s h19) ?_
            refine zx_astore_n C [(3, .ref (a18)), (0, .ref (x0)), (2, .int (x2))] dX1_isRevokedLater_34 rfl (by decide) rfl ?_
            refine zx_goto C 5 dX1_isRevokedLater_35 (by decide) ?_
            exact zx_lv [1, 2, 0] [(0, .ref (x0)), (2, .int (x2)), (3, va_rf (some (a18)))] rfl (hrc5 _ _ _ _ hm)
          · refine zx_get (j := 7) C tC_7 k16 i17 ⟨by decide, Or.inr ⟨_, W_4_35⟩⟩ dX1_isRevokedLater_31 .null (rf_n h19) ?_
            refine zx_astore_nN C [(3, .null), (0, .ref (x0)), (2, .int (x2))] dX1_isRevokedLater_34 rfl (by decide) rfl ?_
            refine zx_goto C 5 dX1_isRevokedLater_35 (by decide) ?_
            exact zx_lv [1, 2, 0] [(0, .ref (x0)), (2, .int (x2)), (3, va_rf (none))] rfl (hrc5 _ _ _ _ hm)
        · replace hm := in_e hm c15
          refine zx_iconst (v := 1) C dX1_isRevokedLater_28 (by decide) ?_
          obtain ⟨rfl, rfl⟩ := ret_e hm
          exact zx_zret C rfl (by decide) rfl rfl dX1_isRevokedLater_29
    · refine zx_lv [0, 1, 2] [(0, .ref (x0)), (2, .int (x2)), (3, .null)] (by rw [h6]; rfl) ?_
      refine zx_aload_nN C dX1_isRevokedLater_5 2 rfl ?_
      refine zx_ifnullN C 38 dX1_isRevokedLater_6 (by decide) ?_
      exact zx_lv [] [] rfl (j_X1_isRevokedLater_38 C htab hin    hm)
set_option maxRecDepth 100000 in
set_option maxHeartbeats 1000000 in
theorem c_X1_isRevokedLater {l : Launch} {D : va_G} {aC : Nat → ClassId} {b0 fu : Nat} {a0 : Nat} {p0 : Nat} {p1 : Int32} {σ τ : tM} {v : Int32} (hm : m_X1_isRevokedLater b0 fu a0 p0 p1 σ = some (v, τ)) : tMt l D aC b0 yX1_isRevokedLater (Cond.code yX1_isRevokedLater cX1_isRevokedLater 4 (some .boolean)) 1 22 [.ref (a0), .ref (p0), .int (p1)] σ (.inl (some (.int v))) τ := by
  unfold m_X1_isRevokedLater at hm
  obtain ⟨hg, hm⟩ := grw_e hm
  refine tMt_of (n := 0) rfl (Nat.le_of_ble_eq_true rfl) hg ?_
  intro p e s m below meth c C htab hin
  refine zx_lv [0, 1, 2] [(0, .ref (a0)), (1, .ref (p0)), (2, .int (p1))] rfl ?_
  refine zx_aload_n C dX1_isRevokedLater_0 1 rfl ?_
  obtain ⟨k1, i2, hm⟩ := ckO_e hm
  rcases omt_e hm with ⟨a3, h4, hm⟩ | ⟨h4, hm⟩
  · refine zx_get (j := 7) C tC_7 k1 i2 ⟨by decide, Or.inr ⟨_, W_4_35⟩⟩ dX1_isRevokedLater_1 (.ref a3) (rf_s h4) ?_
    refine zx_astore_n C [(3, .ref (a3)), (0, .ref (a0)), (1, .ref (p0)), (2, .int (p1))] dX1_isRevokedLater_4 rfl (by decide) rfl ?_
    exact zx_lv [1, 3, 0] [(0, .ref (a0)), (2, .int (p1)), (3, va_rf (some (a3)))] rfl (l_X1_isRevokedLater_5 C htab hin  _ _ _ _ _ hm)
  · refine zx_get (j := 7) C tC_7 k1 i2 ⟨by decide, Or.inr ⟨_, W_4_35⟩⟩ dX1_isRevokedLater_1 .null (rf_n h4) ?_
    refine zx_astore_nN C [(3, .null), (0, .ref (a0)), (1, .ref (p0)), (2, .int (p1))] dX1_isRevokedLater_4 rfl (by decide) rfl ?_
    exact zx_lv [1, 3, 0] [(0, .ref (a0)), (2, .int (p1)), (3, va_rf (none))] rfl (l_X1_isRevokedLater_5 C htab hin  _ _ _ _ _ hm)
abbrev cX1_lastWhole : ByteArray := prog_3_method_21_code
def yX1_lastWhole : MethodName := ⟨"SyncTree$Journal", "lastWhole", "(I)I"⟩
theorem Y_X1_lastWhole : tY yX1_lastWhole cX1_lastWhole 4 (some .int) 1 := ⟨W_6_132, W_1_5, ⟨by decide +kernel, by decide +kernel⟩, by decide +kernel⟩
theorem dX1_lastWhole_0 : decode cX1_lastWhole 0 = .ok (.iload_n 1, 1) := by decide +kernel
theorem dX1_lastWhole_1 : decode cX1_lastWhole 1 = .ok (.istore_n 2, 1) := by decide +kernel
theorem dX1_lastWhole_2 : decode cX1_lastWhole 2 = .ok (.aload_n 0, 1) := by decide +kernel
theorem dX1_lastWhole_3 : decode cX1_lastWhole 3 = .ok (.getfield 152, 3) := by decide +kernel
theorem dX1_lastWhole_6 : decode cX1_lastWhole 6 = .ok (.astore_n 3, 1) := by decide +kernel
theorem dX1_lastWhole_7 : decode cX1_lastWhole 7 = .ok (.aload_n 3, 1) := by decide +kernel
theorem dX1_lastWhole_8 : decode cX1_lastWhole 8 = .ok (.ifnull 34, 3) := by decide +kernel
theorem dX1_lastWhole_11 : decode cX1_lastWhole 11 = .ok (.aload_n 3, 1) := by decide +kernel
theorem dX1_lastWhole_12 : decode cX1_lastWhole 12 = .ok (.getfield 183, 3) := by decide +kernel
theorem dX1_lastWhole_15 : decode cX1_lastWhole 15 = .ok (.iload_n 1, 1) := by decide +kernel
theorem dX1_lastWhole_16 : decode cX1_lastWhole 16 = .ok (.if_icmp .le 18, 3) := by decide +kernel
theorem dX1_lastWhole_19 : decode cX1_lastWhole 19 = .ok (.aload_n 0, 1) := by decide +kernel
theorem dX1_lastWhole_20 : decode cX1_lastWhole 20 = .ok (.aload_n 3, 1) := by decide +kernel
theorem dX1_lastWhole_21 : decode cX1_lastWhole 21 = .ok (.invokevirtual 221, 3) := by decide +kernel
theorem dX1_lastWhole_24 : decode cX1_lastWhole 24 = .ok (.ifCond .ne 5, 3) := by decide +kernel
theorem dX1_lastWhole_27 : decode cX1_lastWhole 27 = .ok (.iload_n 2, 1) := by decide +kernel
theorem dX1_lastWhole_28 : decode cX1_lastWhole 28 = .ok (.ireturn, 1) := by decide +kernel
theorem dX1_lastWhole_29 : decode cX1_lastWhole 29 = .ok (.aload_n 3, 1) := by decide +kernel
theorem dX1_lastWhole_30 : decode cX1_lastWhole 30 = .ok (.getfield 183, 3) := by decide +kernel
theorem dX1_lastWhole_33 : decode cX1_lastWhole 33 = .ok (.istore_n 2, 1) := by decide +kernel
theorem dX1_lastWhole_34 : decode cX1_lastWhole 34 = .ok (.aload_n 3, 1) := by decide +kernel
theorem dX1_lastWhole_35 : decode cX1_lastWhole 35 = .ok (.getfield 155, 3) := by decide +kernel
theorem dX1_lastWhole_38 : decode cX1_lastWhole 38 = .ok (.astore_n 3, 1) := by decide +kernel
theorem dX1_lastWhole_39 : decode cX1_lastWhole 39 = .ok (.goto (-32), 3) := by decide +kernel
theorem dX1_lastWhole_42 : decode cX1_lastWhole 42 = .ok (.iload_n 2, 1) := by decide +kernel
theorem dX1_lastWhole_43 : decode cX1_lastWhole 43 = .ok (.ireturn, 1) := by decide +kernel
set_option maxRecDepth 100000 in
set_option maxHeartbeats 1000000 in
theorem j_X1_lastWhole_34 {p : Program} {l : Launch} {e : Env} {s : State} {m : MethodId} {args : Array Value} {below : List Frame} {meth : Method} {c : Code} {D : va_G} {aC : Nat → ClassId} {b0 fu : Nat} {σ0 τ : tM} {v : Int32} {rc7 : Nat → Int32 → Int32 → Option Nat → tM → Option ((Int32) × tM)} (C : tCx p l s m args meth c yX1_lastWhole.cls cX1_lastWhole 4 (some .int) D aC b0 σ0) (htab : ∀ x ∈ c.exceptionTable.toList, False) (hin : meth.name = yX1_lastWhole.name) (hrc7 : ∀ (x0 : Nat) (x1 : Int32) (x2 : Int32) (x3 : Option Nat) (ρ : tM), rc7 x0 x1 x2 x3 ρ = some (v, τ) → tX p l e s m args below meth c 4 2 43 D aC b0 σ0 (.inl (some (.int v))) τ 7 [(0, .ref (x0)), (1, .int (x1)), (2, .int (x2)), (3, va_rf (x3))] [] ρ) {x0 : Nat} {x1 : Int32} {x2 : Int32} {x3 : Option Nat} {σ : tM} (hm : J_X1_lastWhole_34 b0 fu rc7 x0 x1 x2 x3 σ = some (v, τ)) : tX p l e s m args below meth c 4 2 43 D aC b0 σ0 (.inl (some (.int v))) τ 34 [(0, .ref (x0)), (1, .int (x1)), (2, .int (x2)), (3, va_rf (x3))] [] σ := by
  unfold J_X1_lastWhole_34 at hm
  rcases omt_e hm with ⟨o10, h11, hm⟩ | ⟨h11, hm⟩
  · refine zx_lv [0, 1, 2, 3] [(0, .ref (x0)), (1, .int (x1)), (2, .int (x2)), (3, .ref (o10))] (by rw [h11]; rfl) ?_
    refine zx_aload_n C dX1_lastWhole_34 3 rfl ?_
    obtain ⟨k12, i13, hm⟩ := ckO_e hm
    rcases omt_e hm with ⟨a14, h15, hm⟩ | ⟨h15, hm⟩
    · refine zx_get (j := 7) C tC_7 k12 i13 ⟨by decide, Or.inr ⟨_, W_4_35⟩⟩ dX1_lastWhole_35 (.ref a14) (rf_s h15) ?_
      refine zx_astore_n C [(3, .ref (a14)), (0, .ref (x0)), (1, .int (x1)), (2, .int (x2))] dX1_lastWhole_38 rfl (by decide) rfl ?_
      refine zx_goto C 7 dX1_lastWhole_39 (by decide) ?_
      exact zx_lv [1, 2, 3, 0] [(0, .ref (x0)), (1, .int (x1)), (2, .int (x2)), (3, va_rf (some (a14)))] rfl (hrc7 _ _ _ _ _ hm)
    · refine zx_get (j := 7) C tC_7 k12 i13 ⟨by decide, Or.inr ⟨_, W_4_35⟩⟩ dX1_lastWhole_35 .null (rf_n h15) ?_
      refine zx_astore_nN C [(3, .null), (0, .ref (x0)), (1, .int (x1)), (2, .int (x2))] dX1_lastWhole_38 rfl (by decide) rfl ?_
      refine zx_goto C 7 dX1_lastWhole_39 (by decide) ?_
      exact zx_lv [1, 2, 3, 0] [(0, .ref (x0)), (1, .int (x1)), (2, .int (x2)), (3, va_rf (none))] rfl (hrc7 _ _ _ _ _ hm)
  · refine zx_lv [0, 1, 2, 3] [(0, .ref (x0)), (1, .int (x1)), (2, .int (x2)), (3, .null)] (by rw [h11]; rfl) ?_
    refine zx_aload_nN C dX1_lastWhole_34 3 rfl ?_
    cases hm
set_option maxRecDepth 100000 in
set_option maxHeartbeats 1000000 in
theorem l_X1_lastWhole_7 {p : Program} {l : Launch} {e : Env} {s : State} {m : MethodId} {args : Array Value} {below : List Frame} {meth : Method} {c : Code} {D : va_G} {aC : Nat → ClassId} {b0 fu : Nat} {σ0 τ : tM} {v : Int32}  (C : tCx p l s m args meth c yX1_lastWhole.cls cX1_lastWhole 4 (some .int) D aC b0 σ0) (htab : ∀ x ∈ c.exceptionTable.toList, False) (hin : meth.name = yX1_lastWhole.name)  : ∀ (n : Nat) (x0 : Nat) (x1 : Int32) (x2 : Int32) (x3 : Option Nat) (σ : tM), L_X1_lastWhole_7 b0 fu  n x0 x1 x2 x3 σ = some (v, τ) → tX p l e s m args below meth c 4 2 43 D aC b0 σ0 (.inl (some (.int v))) τ 7 [(0, .ref (x0)), (1, .int (x1)), (2, .int (x2)), (3, va_rf (x3))] [] σ := by
  intro n
  induction n with
  | zero => intro x0 x1 x2 x3 σ hm; unfold L_X1_lastWhole_7 at hm; cases hm
  | succ n ih =>
    intro x0 x1 x2 x3 σ hm
    unfold L_X1_lastWhole_7 at hm
    obtain ⟨rc7, hrc⟩ : ∃ z, z = L_X1_lastWhole_7 b0 fu  n := ⟨_, rfl⟩
    replace hm := ltb_e hm hrc
    rw [← hrc] at ih
    have hrc7 := ih
    clear ih hrc
    rcases omt_e hm with ⟨o5, h6, hm⟩ | ⟨h6, hm⟩
    · refine zx_lv [0, 1, 2, 3] [(0, .ref (x0)), (1, .int (x1)), (2, .int (x2)), (3, .ref (o5))] (by rw [h6]; rfl) ?_
      refine zx_aload_n C dX1_lastWhole_7 3 rfl ?_
      refine zx_ifnull C dX1_lastWhole_8 ?_
      refine zx_aload_n C dX1_lastWhole_11 3 rfl ?_
      obtain ⟨k7, i8, hm⟩ := ckO_e hm
      refine zx_get (j := 0) C tC_7 k7 i8 ⟨by decide, Or.inr ⟨_, W_4_22⟩⟩ dX1_lastWhole_12 (.int (tI (σ) (o5) 0)) rfl ?_
      refine zx_iload_n C dX1_lastWhole_15 1 rfl ?_
      refine zx_icmp_le C 34 dX1_lastWhole_16 (by decide) (fun c9 => ?_) (fun c9 => ?_)
      · replace hm := ip_e hm c9
        exact zx_lv [0, 1, 2, 3] [(0, .ref (x0)), (1, .int (x1)), (2, .int (x2)), (3, va_rf (some (o5)))] rfl (j_X1_lastWhole_34 C htab hin hrc7   hm)
      · replace hm := in_e hm c9
        refine zx_aload_n C dX1_lastWhole_19 0 rfl ?_
        refine zx_aload_n C dX1_lastWhole_20 3 rfl ?_
        obtain ⟨k16, i17, hm⟩ := ckO_e hm
        obtain ⟨v18, ρ19, h20, hm⟩ := cll_e hm
        refine zx_callV (σ := σ) C [.ref (o5)] tC_1 k16 i17 Y_X1_isWhole W_6_133 W_6_135 Wp_47 (c_X1_isWhole h20) (by decide) (by decide) rfl (Nat.le_of_ble_eq_true rfl) dX1_lastWhole_21 rfl ?_
        refine zx_if_ne C 29 dX1_lastWhole_24 (by decide) (fun c21 => ?_) (fun c21 => ?_)
        · replace hm := in_e hm c21
          refine zx_aload_n C dX1_lastWhole_29 3 rfl ?_
          obtain ⟨k22, i23, hm⟩ := ckO_e hm
          refine zx_get (j := 0) C tC_7 k22 i23 ⟨by decide, Or.inr ⟨_, W_4_22⟩⟩ dX1_lastWhole_30 (.int (tI (ρ19) (o5) 0)) rfl ?_
          refine zx_topi (fun y24 hy24 => ?_)
          replace hm := ltb_e hm hy24
          refine zx_istore_n C [(2, .int (y24)), (0, .ref (x0)), (1, .int (x1)), (3, .ref (o5))] dX1_lastWhole_33 rfl (by decide) rfl ?_
          exact zx_lv [1, 2, 0, 3] [(0, .ref (x0)), (1, .int (x1)), (2, .int (y24)), (3, va_rf (some (o5)))] rfl (j_X1_lastWhole_34 C htab hin hrc7   hm)
        · replace hm := ip_e hm c21
          refine zx_iload_n C dX1_lastWhole_27 2 rfl ?_
          obtain ⟨rfl, rfl⟩ := ret_e hm
          exact zx_iret C rfl rfl rfl dX1_lastWhole_28
    · refine zx_lv [0, 1, 2, 3] [(0, .ref (x0)), (1, .int (x1)), (2, .int (x2)), (3, .null)] (by rw [h6]; rfl) ?_
      refine zx_aload_nN C dX1_lastWhole_7 3 rfl ?_
      refine zx_ifnullN C 42 dX1_lastWhole_8 (by decide) ?_
      refine zx_iload_n C dX1_lastWhole_42 2 rfl ?_
      obtain ⟨rfl, rfl⟩ := ret_e hm
      exact zx_iret C rfl rfl rfl dX1_lastWhole_43
set_option maxRecDepth 100000 in
set_option maxHeartbeats 1000000 in
theorem c_X1_lastWhole {l : Launch} {D : va_G} {aC : Nat → ClassId} {b0 fu : Nat} {a0 : Nat} {p0 : Int32} {σ τ : tM} {v : Int32} (hm : m_X1_lastWhole b0 fu a0 p0 σ = some (v, τ)) : tMt l D aC b0 yX1_lastWhole (Cond.code yX1_lastWhole cX1_lastWhole 4 (some .int)) 2 43 [.ref (a0), .int (p0)] σ (.inl (some (.int v))) τ := by
  unfold m_X1_lastWhole at hm
  obtain ⟨hg, hm⟩ := grw_e hm
  refine tMt_of (n := 0) rfl (Nat.le_of_ble_eq_true rfl) hg ?_
  intro p e s m below meth c C htab hin
  refine zx_lv [0, 1] [(0, .ref (a0)), (1, .int (p0))] rfl ?_
  refine zx_iload_n C dX1_lastWhole_0 1 rfl ?_
  refine zx_istore_n C [(2, .int (p0)), (0, .ref (a0)), (1, .int (p0))] dX1_lastWhole_1 rfl (by decide) rfl ?_
  refine zx_aload_n C dX1_lastWhole_2 1 rfl ?_
  obtain ⟨k1, i2, hm⟩ := ckO_e hm
  rcases omt_e hm with ⟨a3, h4, hm⟩ | ⟨h4, hm⟩
  · refine zx_get (j := 5) C tC_1 k1 i2 ⟨by decide, Or.inl W_1_185⟩ dX1_lastWhole_3 (.ref a3) (rf_s h4) ?_
    refine zx_astore_n C [(3, .ref (a3)), (2, .int (p0)), (0, .ref (a0)), (1, .int (p0))] dX1_lastWhole_6 rfl (by decide) rfl ?_
    exact zx_lv [2, 3, 1, 0] [(0, .ref (a0)), (1, .int (p0)), (2, .int (p0)), (3, va_rf (some (a3)))] rfl (l_X1_lastWhole_7 C htab hin  _ _ _ _ _ _ hm)
  · refine zx_get (j := 5) C tC_1 k1 i2 ⟨by decide, Or.inl W_1_185⟩ dX1_lastWhole_3 .null (rf_n h4) ?_
    refine zx_astore_nN C [(3, .null), (2, .int (p0)), (0, .ref (a0)), (1, .int (p0))] dX1_lastWhole_6 rfl (by decide) rfl ?_
    exact zx_lv [2, 3, 1, 0] [(0, .ref (a0)), (1, .int (p0)), (2, .int (p0)), (3, va_rf (none))] rfl (l_X1_lastWhole_7 C htab hin  _ _ _ _ _ _ hm)
abbrev cX1_markReplayed : ByteArray := prog_3_method_23_code
def yX1_markReplayed : MethodName := ⟨"SyncTree$Journal", "markReplayed", "(II)V"⟩
theorem Y_X1_markReplayed : tY yX1_markReplayed cX1_markReplayed 4 none 2 := ⟨W_6_140, W_1_5, ⟨by decide +kernel, by decide +kernel⟩, by decide +kernel⟩
theorem dX1_markReplayed_0 : decode cX1_markReplayed 0 = .ok (.aload_n 0, 1) := by decide +kernel
theorem dX1_markReplayed_1 : decode cX1_markReplayed 1 = .ok (.getfield 17, 3) := by decide +kernel
theorem dX1_markReplayed_4 : decode cX1_markReplayed 4 = .ok (.iconst 0, 1) := by decide +kernel
theorem dX1_markReplayed_5 : decode cX1_markReplayed 5 = .ok (.invokestatic 226, 3) := by decide +kernel
theorem dX1_markReplayed_8 : decode cX1_markReplayed 8 = .ok (.aload_n 0, 1) := by decide +kernel
theorem dX1_markReplayed_9 : decode cX1_markReplayed 9 = .ok (.getfield 152, 3) := by decide +kernel
theorem dX1_markReplayed_12 : decode cX1_markReplayed 12 = .ok (.astore_n 3, 1) := by decide +kernel
theorem dX1_markReplayed_13 : decode cX1_markReplayed 13 = .ok (.aload_n 3, 1) := by decide +kernel
theorem dX1_markReplayed_14 : decode cX1_markReplayed 14 = .ok (.ifnull 45, 3) := by decide +kernel
theorem dX1_markReplayed_17 : decode cX1_markReplayed 17 = .ok (.aload_n 3, 1) := by decide +kernel
theorem dX1_markReplayed_18 : decode cX1_markReplayed 18 = .ok (.getfield 183, 3) := by decide +kernel
theorem dX1_markReplayed_21 : decode cX1_markReplayed 21 = .ok (.iload_n 2, 1) := by decide +kernel
theorem dX1_markReplayed_22 : decode cX1_markReplayed 22 = .ok (.if_icmp .gt 37, 3) := by decide +kernel
theorem dX1_markReplayed_25 : decode cX1_markReplayed 25 = .ok (.aload_n 3, 1) := by decide +kernel
theorem dX1_markReplayed_26 : decode cX1_markReplayed 26 = .ok (.getfield 183, 3) := by decide +kernel
theorem dX1_markReplayed_29 : decode cX1_markReplayed 29 = .ok (.iload_n 1, 1) := by decide +kernel
theorem dX1_markReplayed_30 : decode cX1_markReplayed 30 = .ok (.if_icmp .le 21, 3) := by decide +kernel
theorem dX1_markReplayed_33 : decode cX1_markReplayed 33 = .ok (.aload_n 0, 1) := by decide +kernel
theorem dX1_markReplayed_34 : decode cX1_markReplayed 34 = .ok (.aload_n 3, 1) := by decide +kernel
theorem dX1_markReplayed_35 : decode cX1_markReplayed 35 = .ok (.getfield 157, 3) := by decide +kernel
theorem dX1_markReplayed_38 : decode cX1_markReplayed 38 = .ok (.iconst 1, 1) := by decide +kernel
theorem dX1_markReplayed_39 : decode cX1_markReplayed 39 = .ok (.invokevirtual 232, 3) := by decide +kernel
theorem dX1_markReplayed_42 : decode cX1_markReplayed 42 = .ok (.aload_n 0, 1) := by decide +kernel
theorem dX1_markReplayed_43 : decode cX1_markReplayed 43 = .ok (.aload_n 3, 1) := by decide +kernel
theorem dX1_markReplayed_44 : decode cX1_markReplayed 44 = .ok (.getfield 161, 3) := by decide +kernel
theorem dX1_markReplayed_47 : decode cX1_markReplayed 47 = .ok (.iconst 0, 1) := by decide +kernel
theorem dX1_markReplayed_48 : decode cX1_markReplayed 48 = .ok (.invokevirtual 232, 3) := by decide +kernel
theorem dX1_markReplayed_51 : decode cX1_markReplayed 51 = .ok (.aload_n 3, 1) := by decide +kernel
theorem dX1_markReplayed_52 : decode cX1_markReplayed 52 = .ok (.getfield 155, 3) := by decide +kernel
theorem dX1_markReplayed_55 : decode cX1_markReplayed 55 = .ok (.astore_n 3, 1) := by decide +kernel
theorem dX1_markReplayed_56 : decode cX1_markReplayed 56 = .ok (.goto (-43), 3) := by decide +kernel
theorem dX1_markReplayed_59 : decode cX1_markReplayed 59 = .ok (.return_, 1) := by decide +kernel
set_option maxRecDepth 100000 in
set_option maxHeartbeats 1000000 in
theorem j_X1_markReplayed_59 {p : Program} {l : Launch} {e : Env} {s : State} {m : MethodId} {args : Array Value} {below : List Frame} {meth : Method} {c : Code} {D : va_G} {aC : Nat → ClassId} {b0 fu : Nat} {σ0 τ : tM} {v : Unit}  (C : tCx p l s m args meth c yX1_markReplayed.cls cX1_markReplayed 4 none D aC b0 σ0) (htab : ∀ x ∈ c.exceptionTable.toList, False) (hin : meth.name = yX1_markReplayed.name)   {σ : tM} (hm : J_X1_markReplayed_59 b0 fu   σ = some (v, τ)) : tX p l e s m args below meth c 4 1 23 D aC b0 σ0 (.inl none) τ 59 [] [] σ := by
  unfold J_X1_markReplayed_59 at hm
  obtain ⟨rfl, rfl⟩ := ret_e hm
  exact zx_vret C rfl rfl rfl dX1_markReplayed_59
set_option maxRecDepth 100000 in
set_option maxHeartbeats 1000000 in
theorem j_X1_markReplayed_51 {p : Program} {l : Launch} {e : Env} {s : State} {m : MethodId} {args : Array Value} {below : List Frame} {meth : Method} {c : Code} {D : va_G} {aC : Nat → ClassId} {b0 fu : Nat} {σ0 τ : tM} {v : Unit} {rc13 : Nat → Int32 → Int32 → Option Nat → tM → Option ((Unit) × tM)} (C : tCx p l s m args meth c yX1_markReplayed.cls cX1_markReplayed 4 none D aC b0 σ0) (htab : ∀ x ∈ c.exceptionTable.toList, False) (hin : meth.name = yX1_markReplayed.name) (hrc13 : ∀ (x0 : Nat) (x1 : Int32) (x2 : Int32) (x3 : Option Nat) (ρ : tM), rc13 x0 x1 x2 x3 ρ = some (v, τ) → tX p l e s m args below meth c 4 1 23 D aC b0 σ0 (.inl none) τ 13 [(0, .ref (x0)), (1, .int (x1)), (2, .int (x2)), (3, va_rf (x3))] [] ρ) {x0 : Nat} {x1 : Int32} {x2 : Int32} {x3 : Option Nat} {σ : tM} (hm : J_X1_markReplayed_51 b0 fu rc13 x0 x1 x2 x3 σ = some (v, τ)) : tX p l e s m args below meth c 4 1 23 D aC b0 σ0 (.inl none) τ 51 [(0, .ref (x0)), (1, .int (x1)), (2, .int (x2)), (3, va_rf (x3))] [] σ := by
  unfold J_X1_markReplayed_51 at hm
  rcases omt_e hm with ⟨o18, h19, hm⟩ | ⟨h19, hm⟩
  · refine zx_lv [0, 1, 2, 3] [(0, .ref (x0)), (1, .int (x1)), (2, .int (x2)), (3, .ref (o18))] (by rw [h19]; rfl) ?_
    refine zx_aload_n C dX1_markReplayed_51 3 rfl ?_
    obtain ⟨k20, i21, hm⟩ := ckO_e hm
    rcases omt_e hm with ⟨a22, h23, hm⟩ | ⟨h23, hm⟩
    · refine zx_get (j := 7) C tC_7 k20 i21 ⟨by decide, Or.inr ⟨_, W_4_35⟩⟩ dX1_markReplayed_52 (.ref a22) (rf_s h23) ?_
      refine zx_astore_n C [(3, .ref (a22)), (0, .ref (x0)), (1, .int (x1)), (2, .int (x2))] dX1_markReplayed_55 rfl (by decide) rfl ?_
      refine zx_goto C 13 dX1_markReplayed_56 (by decide) ?_
      exact zx_lv [1, 2, 3, 0] [(0, .ref (x0)), (1, .int (x1)), (2, .int (x2)), (3, va_rf (some (a22)))] rfl (hrc13 _ _ _ _ _ hm)
    · refine zx_get (j := 7) C tC_7 k20 i21 ⟨by decide, Or.inr ⟨_, W_4_35⟩⟩ dX1_markReplayed_52 .null (rf_n h23) ?_
      refine zx_astore_nN C [(3, .null), (0, .ref (x0)), (1, .int (x1)), (2, .int (x2))] dX1_markReplayed_55 rfl (by decide) rfl ?_
      refine zx_goto C 13 dX1_markReplayed_56 (by decide) ?_
      exact zx_lv [1, 2, 3, 0] [(0, .ref (x0)), (1, .int (x1)), (2, .int (x2)), (3, va_rf (none))] rfl (hrc13 _ _ _ _ _ hm)
  · refine zx_lv [0, 1, 2, 3] [(0, .ref (x0)), (1, .int (x1)), (2, .int (x2)), (3, .null)] (by rw [h19]; rfl) ?_
    refine zx_aload_nN C dX1_markReplayed_51 3 rfl ?_
    cases hm
set_option maxRecDepth 100000 in
set_option maxHeartbeats 1000000 in
theorem l_X1_markReplayed_13 {p : Program} {l : Launch} {e : Env} {s : State} {m : MethodId} {args : Array Value} {below : List Frame} {meth : Method} {c : Code} {D : va_G} {aC : Nat → ClassId} {b0 fu : Nat} {σ0 τ : tM} {v : Unit}  (C : tCx p l s m args meth c yX1_markReplayed.cls cX1_markReplayed 4 none D aC b0 σ0) (htab : ∀ x ∈ c.exceptionTable.toList, False) (hin : meth.name = yX1_markReplayed.name)  : ∀ (n : Nat) (x0 : Nat) (x1 : Int32) (x2 : Int32) (x3 : Option Nat) (σ : tM), L_X1_markReplayed_13 b0 fu  n x0 x1 x2 x3 σ = some (v, τ) → tX p l e s m args below meth c 4 1 23 D aC b0 σ0 (.inl none) τ 13 [(0, .ref (x0)), (1, .int (x1)), (2, .int (x2)), (3, va_rf (x3))] [] σ := by
  intro n
  induction n with
  | zero => intro x0 x1 x2 x3 σ hm; unfold L_X1_markReplayed_13 at hm; cases hm
  | succ n ih =>
    intro x0 x1 x2 x3 σ hm
    unfold L_X1_markReplayed_13 at hm
    obtain ⟨rc13, hrc⟩ : ∃ z, z = L_X1_markReplayed_13 b0 fu  n := ⟨_, rfl⟩
    replace hm := ltb_e hm hrc
    rw [← hrc] at ih
    have hrc13 := ih
    clear ih hrc
    rcases omt_e hm with ⟨o12, h13, hm⟩ | ⟨h13, hm⟩
    · refine zx_lv [0, 1, 2, 3] [(0, .ref (x0)), (1, .int (x1)), (2, .int (x2)), (3, .ref (o12))] (by rw [h13]; rfl) ?_
      refine zx_aload_n C dX1_markReplayed_13 3 rfl ?_
      refine zx_ifnull C dX1_markReplayed_14 ?_
      refine zx_aload_n C dX1_markReplayed_17 3 rfl ?_
      obtain ⟨k14, i15, hm⟩ := ckO_e hm
      refine zx_get (j := 0) C tC_7 k14 i15 ⟨by decide, Or.inr ⟨_, W_4_22⟩⟩ dX1_markReplayed_18 (.int (tI (σ) (o12) 0)) rfl ?_
      refine zx_iload_n C dX1_markReplayed_21 2 rfl ?_
      refine zx_icmp_gt C 59 dX1_markReplayed_22 (by decide) (fun c16 => ?_) (fun c16 => ?_)
      · replace hm := ip_e hm c16
        exact zx_lv [] [] rfl (j_X1_markReplayed_59 C htab hin    hm)
      · replace hm := in_e hm c16
        refine zx_aload_n C dX1_markReplayed_25 3 rfl ?_
        refine zx_get (j := 0) C tC_7 k14 i15 ⟨by decide, Or.inr ⟨_, W_4_22⟩⟩ dX1_markReplayed_26 (.int (tI (σ) (o12) 0)) rfl ?_
        refine zx_iload_n C dX1_markReplayed_29 1 rfl ?_
        refine zx_icmp_le C 51 dX1_markReplayed_30 (by decide) (fun c17 => ?_) (fun c17 => ?_)
        · replace hm := ip_e hm c17
          exact zx_lv [0, 1, 2, 3] [(0, .ref (x0)), (1, .int (x1)), (2, .int (x2)), (3, va_rf (some (o12)))] rfl (j_X1_markReplayed_51 C htab hin hrc13   hm)
        · replace hm := in_e hm c17
          refine zx_aload_n C dX1_markReplayed_33 0 rfl ?_
          refine zx_aload_n C dX1_markReplayed_34 3 rfl ?_
          obtain ⟨a24, h25, hm⟩ := osm_e hm
          refine zx_get (j := 4) C tC_7 k14 i15 ⟨by decide, Or.inr ⟨_, W_4_30⟩⟩ dX1_markReplayed_35 (.ref a24) (rf_s h25) ?_
          refine zx_iconst (v := 1) C dX1_markReplayed_38 (by decide) ?_
          obtain ⟨k26, i27, hm⟩ := ckO_e hm
          obtain ⟨v28, ρ29, h30, hm⟩ := cll_e hm
          refine zx_callV (σ := σ) C [.ref (a24), .int (1)] tC_1 k26 i27 Y_X1_setMarks W_6_142 W_6_144 Wp_49 (c_X1_setMarks h30) (by decide) (by decide) rfl (Nat.le_of_ble_eq_true rfl) dX1_markReplayed_39 rfl ?_
          refine zx_aload_n C dX1_markReplayed_42 0 rfl ?_
          refine zx_aload_n C dX1_markReplayed_43 3 rfl ?_
          obtain ⟨k31, i32, hm⟩ := ckO_e hm
          obtain ⟨a33, h34, hm⟩ := osm_e hm
          refine zx_get (j := 6) C tC_7 k31 i32 ⟨by decide, Or.inr ⟨_, W_4_34⟩⟩ dX1_markReplayed_44 (.ref a33) (rf_s h34) ?_
          refine zx_iconst (v := 0) C dX1_markReplayed_47 (by decide) ?_
          obtain ⟨k35, i36, hm⟩ := ckO_e hm
          obtain ⟨v37, ρ38, h39, hm⟩ := cll_e hm
          refine zx_callV (σ := ρ29) C [.ref (a33), .int (0)] tC_1 k35 i36 Y_X1_setMarks W_6_142 W_6_144 Wp_49 (c_X1_setMarks h39) (by decide) (by decide) rfl (Nat.le_of_ble_eq_true rfl) dX1_markReplayed_48 rfl ?_
          exact zx_lv [0, 1, 2, 3] [(0, .ref (x0)), (1, .int (x1)), (2, .int (x2)), (3, va_rf (some (o12)))] rfl (j_X1_markReplayed_51 C htab hin hrc13   hm)
    · refine zx_lv [0, 1, 2, 3] [(0, .ref (x0)), (1, .int (x1)), (2, .int (x2)), (3, .null)] (by rw [h13]; rfl) ?_
      refine zx_aload_nN C dX1_markReplayed_13 3 rfl ?_
      refine zx_ifnullN C 59 dX1_markReplayed_14 (by decide) ?_
      exact zx_lv [] [] rfl (j_X1_markReplayed_59 C htab hin    hm)
set_option maxRecDepth 100000 in
set_option maxHeartbeats 1000000 in
theorem c_X1_markReplayed {l : Launch} {D : va_G} {aC : Nat → ClassId} {b0 fu : Nat} {a0 : Nat} {p0 : Int32} {p1 : Int32} {σ τ : tM} {v : Unit} (hm : m_X1_markReplayed b0 fu a0 p0 p1 σ = some (v, τ)) : tMt l D aC b0 yX1_markReplayed (Cond.code yX1_markReplayed cX1_markReplayed 4 none) 1 23 [.ref (a0), .int (p0), .int (p1)] σ (.inl none) τ := by
  unfold m_X1_markReplayed at hm
  obtain ⟨hg, hm⟩ := grw_e hm
  refine tMt_of (n := 0) rfl (Nat.le_of_ble_eq_true rfl) hg ?_
  intro p e s m below meth c C htab hin
  refine zx_lv [0, 1, 2] [(0, .ref (a0)), (1, .int (p0)), (2, .int (p1))] rfl ?_
  refine zx_aload_n C dX1_markReplayed_0 0 rfl ?_
  obtain ⟨k1, i2, hm⟩ := ckO_e hm
  obtain ⟨a3, h4, hm⟩ := osm_e hm
  refine zx_get (j := 4) C tC_1 k1 i2 ⟨by decide, Or.inl W_1_184⟩ dX1_markReplayed_1 (.ref a3) (rf_s h4) ?_
  refine zx_iconst (v := 0) C dX1_markReplayed_4 (by decide) ?_
  obtain ⟨v5, ρ6, h7, hm⟩ := cll_e hm
  refine zx_callS (σ := σ) C [.ref (a3), .int (0)] Y_J7_fill_031fb W_6_141 W_2_178 (c_J7_fill_031fb h7) (by decide) (by decide) rfl (Nat.le_of_ble_eq_true rfl) dX1_markReplayed_5 rfl ?_
  refine zx_aload_n C dX1_markReplayed_8 0 rfl ?_
  obtain ⟨k8, i9, hm⟩ := ckO_e hm
  rcases omt_e hm with ⟨a10, h11, hm⟩ | ⟨h11, hm⟩
  · refine zx_get (j := 5) C tC_1 k8 i9 ⟨by decide, Or.inl W_1_185⟩ dX1_markReplayed_9 (.ref a10) (rf_s h11) ?_
    refine zx_astore_n C [(3, .ref (a10)), (0, .ref (a0)), (1, .int (p0)), (2, .int (p1))] dX1_markReplayed_12 rfl (by decide) rfl ?_
    exact zx_lv [1, 2, 3, 0] [(0, .ref (a0)), (1, .int (p0)), (2, .int (p1)), (3, va_rf (some (a10)))] rfl (l_X1_markReplayed_13 C htab hin  _ _ _ _ _ _ hm)
  · refine zx_get (j := 5) C tC_1 k8 i9 ⟨by decide, Or.inl W_1_185⟩ dX1_markReplayed_9 .null (rf_n h11) ?_
    refine zx_astore_nN C [(3, .null), (0, .ref (a0)), (1, .int (p0)), (2, .int (p1))] dX1_markReplayed_12 rfl (by decide) rfl ?_
    exact zx_lv [1, 2, 3, 0] [(0, .ref (a0)), (1, .int (p0)), (2, .int (p1)), (3, va_rf (none))] rfl (l_X1_markReplayed_13 C htab hin  _ _ _ _ _ _ hm)
abbrev cX2_loadMeta : ByteArray := prog_4_method_6_code
def yX2_loadMeta : MethodName := ⟨"SyncTree$Loader", "loadMeta", "(IJ)V"⟩
theorem Y_X2_loadMeta : tY yX2_loadMeta cX2_loadMeta 5 none 2 := ⟨W_6_169, W_1_6, ⟨by decide +kernel, by decide +kernel⟩, by decide +kernel⟩
theorem dX2_loadMeta_0 : decode cX2_loadMeta 0 = .ok (.lload_n 2, 1) := by decide +kernel
theorem dX2_loadMeta_1 : decode cX2_loadMeta 1 = .ok (.invokestatic 66, 3) := by decide +kernel
theorem dX2_loadMeta_4 : decode cX2_loadMeta 4 = .ok (.istore 4, 2) := by decide +kernel
theorem dX2_loadMeta_6 : decode cX2_loadMeta 6 = .ok (.aload_n 0, 1) := by decide +kernel
theorem dX2_loadMeta_7 : decode cX2_loadMeta 7 = .ok (.getfield 15, 3) := by decide +kernel
theorem dX2_loadMeta_10 : decode cX2_loadMeta 10 = .ok (.iload 4, 2) := by decide +kernel
theorem dX2_loadMeta_12 : decode cX2_loadMeta 12 = .ok (.lload_n 2, 1) := by decide +kernel
theorem dX2_loadMeta_13 : decode cX2_loadMeta 13 = .ok (.invokestatic 73, 3) := by decide +kernel
theorem dX2_loadMeta_16 : decode cX2_loadMeta 16 = .ok (.iload_n 1, 1) := by decide +kernel
theorem dX2_loadMeta_17 : decode cX2_loadMeta 17 = .ok (.invokevirtual 76, 3) := by decide +kernel
theorem dX2_loadMeta_20 : decode cX2_loadMeta 20 = .ok (.aload_n 0, 1) := by decide +kernel
theorem dX2_loadMeta_21 : decode cX2_loadMeta 21 = .ok (.getfield 15, 3) := by decide +kernel
theorem dX2_loadMeta_24 : decode cX2_loadMeta 24 = .ok (.iload 4, 2) := by decide +kernel
theorem dX2_loadMeta_26 : decode cX2_loadMeta 26 = .ok (.aload_n 0, 1) := by decide +kernel
theorem dX2_loadMeta_27 : decode cX2_loadMeta 27 = .ok (.getfield 23, 3) := by decide +kernel
theorem dX2_loadMeta_30 : decode cX2_loadMeta 30 = .ok (.iload 4, 2) := by decide +kernel
theorem dX2_loadMeta_32 : decode cX2_loadMeta 32 = .ok (.invokevirtual 27, 3) := by decide +kernel
theorem dX2_loadMeta_35 : decode cX2_loadMeta 35 = .ok (.invokevirtual 33, 3) := by decide +kernel
theorem dX2_loadMeta_38 : decode cX2_loadMeta 38 = .ok (.return_, 1) := by decide +kernel
set_option maxRecDepth 100000 in
set_option maxHeartbeats 1000000 in
theorem c_X2_loadMeta {l : Launch} {D : va_G} {aC : Nat → ClassId} {b0 fu : Nat} {a0 : Nat} {p0 : Int32} {p1 : Int64} {σ τ : tM} {v : Unit} (hm : m_X2_loadMeta b0 fu a0 p0 p1 σ = some (v, τ)) : tMt l D aC b0 yX2_loadMeta (Cond.code yX2_loadMeta cX2_loadMeta 5 none) 2 49 [.ref (a0), .int (p0), .long (p1)] σ (.inl none) τ := by
  unfold m_X2_loadMeta at hm
  obtain ⟨hg, hm⟩ := grw_e hm
  refine tMt_of (n := 0) rfl (Nat.le_of_ble_eq_true rfl) hg ?_
  intro p e s m below meth c C htab hin
  refine zx_lv [0, 1, 2] [(0, .ref (a0)), (1, .int (p0)), (2, .long (p1))] rfl ?_
  refine zx_lload_n C dX2_loadMeta_0 2 rfl ?_
  obtain ⟨v1, ρ2, h3, hm⟩ := cll_e hm
  refine zx_callS (σ := σ) C [.long (p1)] Y_X8_cellOf W_6_170 W_4_118 (c_X8_cellOf h3) (by decide) (by decide) rfl (Nat.le_of_ble_eq_true rfl) dX2_loadMeta_1 rfl ?_
  refine zx_istore C [(4, .int (v1)), (0, .ref (a0)), (1, .int (p0)), (2, .long (p1))] dX2_loadMeta_4 (by decide) rfl ?_
  refine zx_aload_n C dX2_loadMeta_6 1 rfl ?_
  obtain ⟨k4, i5, hm⟩ := ckO_e hm
  obtain ⟨a6, h7, hm⟩ := osm_e hm
  refine zx_get (j := 1) C tC_2 k4 i5 ⟨by decide, Or.inl W_2_2⟩ dX2_loadMeta_7 (.ref a6) (rf_s h7) ?_
  refine zx_iload C dX2_loadMeta_10 0 rfl ?_
  refine zx_lload_n C dX2_loadMeta_12 3 rfl ?_
  obtain ⟨v8, ρ9, h10, hm⟩ := cll_e hm
  refine zx_callS (σ := ρ2) C [.long (p1)] Y_X8_birthOf W_6_171 W_6_172 (c_X8_birthOf h10) (by decide) (by decide) rfl (Nat.le_of_ble_eq_true rfl) dX2_loadMeta_13 rfl ?_
  refine zx_iload_n C dX2_loadMeta_16 2 rfl ?_
  obtain ⟨k11, i12, hm⟩ := ckO_e hm
  obtain ⟨v13, ρ14, h15, hm⟩ := cll_e hm
  refine zx_callV (σ := ρ9) C [.int (v1), .int (v8), .int (p0)] tC_5 k11 i12 Y_X5_adopt W_6_174 W_4_208 W_4_209 (c_X5_adopt h15) (by decide) (by decide) rfl (Nat.le_of_ble_eq_true rfl) dX2_loadMeta_17 rfl ?_
  refine zx_aload_n C dX2_loadMeta_20 1 rfl ?_
  obtain ⟨k16, i17, hm⟩ := ckO_e hm
  obtain ⟨a18, h19, hm⟩ := osm_e hm
  refine zx_get (j := 1) C tC_2 k16 i17 ⟨by decide, Or.inl W_2_2⟩ dX2_loadMeta_21 (.ref a18) (rf_s h19) ?_
  refine zx_iload C dX2_loadMeta_24 0 rfl ?_
  refine zx_aload_n C dX2_loadMeta_26 1 rfl ?_
  obtain ⟨a20, h21, hm⟩ := osm_e hm
  refine zx_get (j := 3) C tC_2 k16 i17 ⟨by decide, Or.inl W_2_4⟩ dX2_loadMeta_27 (.ref a20) (rf_s h21) ?_
  refine zx_iload C dX2_loadMeta_30 0 rfl ?_
  obtain ⟨k22, i23, hm⟩ := ckO_e hm
  obtain ⟨v24, ρ25, h26, hm⟩ := cll_e hm
  rcases omt_e hm with ⟨a27, h28, hm⟩ | ⟨h28, hm⟩
  · subst h28
    refine zx_callV (σ := ρ14) C [.int (v1)] tC_1 k22 i23 Y_X1_baseOf W_6_150 W_6_151 W_6_152 (c_X1_baseOf h26) (by decide) (by decide) rfl (Nat.le_of_ble_eq_true rfl) dX2_loadMeta_32 rfl ?_
    obtain ⟨k29, i30, hm⟩ := ckO_e hm
    obtain ⟨v31, ρ32, h33, hm⟩ := cll_e hm
    refine zx_callV (σ := ρ25) C [.int (v1), va_rf (some (a27))] tC_5 k29 i30 Y_X5_load W_6_154 W_2_130 W_2_131 (c_X5_load h33) (by decide) (by decide) rfl (Nat.le_of_ble_eq_true rfl) dX2_loadMeta_35 rfl ?_
    obtain ⟨rfl, rfl⟩ := ret_e hm
    exact zx_vret C rfl rfl rfl dX2_loadMeta_38
  · subst h28
    refine zx_callV (σ := ρ14) C [.int (v1)] tC_1 k22 i23 Y_X1_baseOf W_6_150 W_6_151 W_6_152 (c_X1_baseOf h26) (by decide) (by decide) rfl (Nat.le_of_ble_eq_true rfl) dX2_loadMeta_32 rfl ?_
    obtain ⟨k34, i35, hm⟩ := ckO_e hm
    obtain ⟨v36, ρ37, h38, hm⟩ := cll_e hm
    refine zx_callV (σ := ρ25) C [.int (v1), va_rf (none)] tC_5 k34 i35 Y_X5_load W_6_154 W_2_130 W_2_131 (c_X5_load h38) (by decide) (by decide) rfl (Nat.le_of_ble_eq_true rfl) dX2_loadMeta_35 rfl ?_
    obtain ⟨rfl, rfl⟩ := ret_e hm
    exact zx_vret C rfl rfl rfl dX2_loadMeta_38
abbrev cX3_take : ByteArray := prog_5_method_3_code
def yX3_take : MethodName := ⟨"SyncTree$PathText", "take", "(LSyncTree$Tape;I)V"⟩
theorem Y_X3_take : tY yX3_take cX3_take 4 none 2 := ⟨W_3_31, W_1_9, ⟨by decide +kernel, by decide +kernel⟩, by decide +kernel⟩
theorem dX3_take_0 : decode cX3_take 0 = .ok (.aload_n 0, 1) := by decide +kernel
theorem dX3_take_1 : decode cX3_take 1 = .ok (.iconst 0, 1) := by decide +kernel
theorem dX3_take_2 : decode cX3_take 2 = .ok (.iload_n 2, 1) := by decide +kernel
theorem dX3_take_3 : decode cX3_take 3 = .ok (.bipush 120, 2) := by decide +kernel
theorem dX3_take_5 : decode cX3_take 5 = .ok (.invokestatic 25, 3) := by decide +kernel
theorem dX3_take_8 : decode cX3_take 8 = .ok (.invokestatic 31, 3) := by decide +kernel
theorem dX3_take_11 : decode cX3_take 11 = .ok (.putfield 15, 3) := by decide +kernel
theorem dX3_take_14 : decode cX3_take 14 = .ok (.iconst 0, 1) := by decide +kernel
theorem dX3_take_15 : decode cX3_take 15 = .ok (.istore_n 3, 1) := by decide +kernel
theorem dX3_take_16 : decode cX3_take 16 = .ok (.iload_n 3, 1) := by decide +kernel
theorem dX3_take_17 : decode cX3_take 17 = .ok (.aload_n 0, 1) := by decide +kernel
theorem dX3_take_18 : decode cX3_take 18 = .ok (.getfield 15, 3) := by decide +kernel
theorem dX3_take_21 : decode cX3_take 21 = .ok (.if_icmp .ge 20, 3) := by decide +kernel
theorem dX3_take_24 : decode cX3_take 24 = .ok (.aload_n 0, 1) := by decide +kernel
theorem dX3_take_25 : decode cX3_take 25 = .ok (.getfield 9, 3) := by decide +kernel
theorem dX3_take_28 : decode cX3_take 28 = .ok (.iload_n 3, 1) := by decide +kernel
theorem dX3_take_29 : decode cX3_take 29 = .ok (.aload_n 1, 1) := by decide +kernel
theorem dX3_take_30 : decode cX3_take 30 = .ok (.iload_n 3, 1) := by decide +kernel
theorem dX3_take_31 : decode cX3_take 31 = .ok (.invokevirtual 34, 3) := by decide +kernel
theorem dX3_take_34 : decode cX3_take 34 = .ok (.bastore, 1) := by decide +kernel
theorem dX3_take_35 : decode cX3_take 35 = .ok (.iinc 3 1, 3) := by decide +kernel
theorem dX3_take_38 : decode cX3_take 38 = .ok (.goto (-22), 3) := by decide +kernel
theorem dX3_take_41 : decode cX3_take 41 = .ok (.aload_n 0, 1) := by decide +kernel
theorem dX3_take_42 : decode cX3_take 42 = .ok (.getfield 15, 3) := by decide +kernel
theorem dX3_take_45 : decode cX3_take 45 = .ok (.istore_n 3, 1) := by decide +kernel
theorem dX3_take_46 : decode cX3_take 46 = .ok (.iload_n 3, 1) := by decide +kernel
theorem dX3_take_47 : decode cX3_take 47 = .ok (.ifCond .le 22, 3) := by decide +kernel
theorem dX3_take_50 : decode cX3_take 50 = .ok (.aload_n 0, 1) := by decide +kernel
theorem dX3_take_51 : decode cX3_take 51 = .ok (.getfield 9, 3) := by decide +kernel
theorem dX3_take_54 : decode cX3_take 54 = .ok (.iload_n 3, 1) := by decide +kernel
theorem dX3_take_55 : decode cX3_take 55 = .ok (.iconst 1, 1) := by decide +kernel
theorem dX3_take_56 : decode cX3_take 56 = .ok (.isub, 1) := by decide +kernel
theorem dX3_take_57 : decode cX3_take 57 = .ok (.baload, 1) := by decide +kernel
theorem dX3_take_58 : decode cX3_take 58 = .ok (.bipush 47, 2) := by decide +kernel
theorem dX3_take_60 : decode cX3_take 60 = .ok (.if_icmp .ne 9, 3) := by decide +kernel
theorem dX3_take_63 : decode cX3_take 63 = .ok (.iinc 3 (-1), 3) := by decide +kernel
theorem dX3_take_66 : decode cX3_take 66 = .ok (.goto (-20), 3) := by decide +kernel
theorem dX3_take_69 : decode cX3_take 69 = .ok (.aload_n 0, 1) := by decide +kernel
theorem dX3_take_70 : decode cX3_take 70 = .ok (.iload_n 3, 1) := by decide +kernel
theorem dX3_take_71 : decode cX3_take 71 = .ok (.putfield 19, 3) := by decide +kernel
theorem dX3_take_74 : decode cX3_take 74 = .ok (.aload_n 0, 1) := by decide +kernel
theorem dX3_take_75 : decode cX3_take 75 = .ok (.getfield 19, 3) := by decide +kernel
theorem dX3_take_78 : decode cX3_take 78 = .ok (.ifCond .le 32, 3) := by decide +kernel
theorem dX3_take_81 : decode cX3_take 81 = .ok (.aload_n 0, 1) := by decide +kernel
theorem dX3_take_82 : decode cX3_take 82 = .ok (.getfield 9, 3) := by decide +kernel
theorem dX3_take_85 : decode cX3_take 85 = .ok (.aload_n 0, 1) := by decide +kernel
theorem dX3_take_86 : decode cX3_take 86 = .ok (.getfield 19, 3) := by decide +kernel
theorem dX3_take_89 : decode cX3_take 89 = .ok (.iconst 1, 1) := by decide +kernel
theorem dX3_take_90 : decode cX3_take 90 = .ok (.isub, 1) := by decide +kernel
theorem dX3_take_91 : decode cX3_take 91 = .ok (.baload, 1) := by decide +kernel
theorem dX3_take_92 : decode cX3_take 92 = .ok (.bipush 47, 2) := by decide +kernel
theorem dX3_take_94 : decode cX3_take 94 = .ok (.if_icmp .eq 16, 3) := by decide +kernel
theorem dX3_take_97 : decode cX3_take 97 = .ok (.aload_n 0, 1) := by decide +kernel
theorem dX3_take_98 : decode cX3_take 98 = .ok (.dup, 1) := by decide +kernel
theorem dX3_take_99 : decode cX3_take 99 = .ok (.getfield 19, 3) := by decide +kernel
theorem dX3_take_102 : decode cX3_take 102 = .ok (.iconst 1, 1) := by decide +kernel
theorem dX3_take_103 : decode cX3_take 103 = .ok (.isub, 1) := by decide +kernel
theorem dX3_take_104 : decode cX3_take 104 = .ok (.putfield 19, 3) := by decide +kernel
theorem dX3_take_107 : decode cX3_take 107 = .ok (.goto (-33), 3) := by decide +kernel
theorem dX3_take_110 : decode cX3_take 110 = .ok (.aload_n 0, 1) := by decide +kernel
theorem dX3_take_111 : decode cX3_take 111 = .ok (.iload_n 3, 1) := by decide +kernel
theorem dX3_take_112 : decode cX3_take 112 = .ok (.aload_n 0, 1) := by decide +kernel
theorem dX3_take_113 : decode cX3_take 113 = .ok (.getfield 19, 3) := by decide +kernel
theorem dX3_take_116 : decode cX3_take 116 = .ok (.isub, 1) := by decide +kernel
theorem dX3_take_117 : decode cX3_take 117 = .ok (.putfield 22, 3) := by decide +kernel
theorem dX3_take_120 : decode cX3_take 120 = .ok (.return_, 1) := by decide +kernel
set_option maxRecDepth 100000 in
set_option maxHeartbeats 1000000 in
theorem j_X3_take_110 {p : Program} {l : Launch} {e : Env} {s : State} {m : MethodId} {args : Array Value} {below : List Frame} {meth : Method} {c : Code} {D : va_G} {aC : Nat → ClassId} {b0 fu : Nat} {σ0 τ : tM} {v : Unit}  (C : tCx p l s m args meth c yX3_take.cls cX3_take 4 none D aC b0 σ0) (htab : ∀ x ∈ c.exceptionTable.toList, False) (hin : meth.name = yX3_take.name)  {x0 : Nat} {x3 : Int32} {σ : tM} (hm : J_X3_take_110 b0 fu  x0 x3 σ = some (v, τ)) : tX p l e s m args below meth c 4 1 21 D aC b0 σ0 (.inl none) τ 110 [(0, .ref (x0)), (3, .int (x3))] [] σ := by
  unfold J_X3_take_110 at hm
  refine zx_aload_n C dX3_take_110 0 rfl ?_
  refine zx_iload_n C dX3_take_111 1 rfl ?_
  refine zx_aload_n C dX3_take_112 0 rfl ?_
  obtain ⟨k13, i14, hm⟩ := ckO_e hm
  refine zx_get (j := 2) C tC_3 k13 i14 ⟨by decide, Or.inl W_2_63⟩ dX3_take_113 (.int (tI (σ) (x0) 2)) rfl ?_
  refine zx_isub C dX3_take_116 ?_
  refine zx_put (j := 3) (ρ := sI (σ) (x0) 3 ((x3) - (tI (σ) (x0) 2))) C tC_3 k13 i14 ⟨by decide, Or.inl W_2_66⟩ rfl rfl rfl (sI_ok (fun _ => rfl)) dX3_take_117 ?_
  obtain ⟨rfl, rfl⟩ := ret_e hm
  exact zx_vret C rfl rfl rfl dX3_take_120
set_option maxRecDepth 100000 in
set_option maxHeartbeats 1000000 in
theorem l_X3_take_74 {p : Program} {l : Launch} {e : Env} {s : State} {m : MethodId} {args : Array Value} {below : List Frame} {meth : Method} {c : Code} {D : va_G} {aC : Nat → ClassId} {b0 fu : Nat} {σ0 τ : tM} {v : Unit}  (C : tCx p l s m args meth c yX3_take.cls cX3_take 4 none D aC b0 σ0) (htab : ∀ x ∈ c.exceptionTable.toList, False) (hin : meth.name = yX3_take.name)  : ∀ (n : Nat) (x0 : Nat) (x3 : Int32) (σ : tM), L_X3_take_74 b0 fu  n x0 x3 σ = some (v, τ) → tX p l e s m args below meth c 4 1 21 D aC b0 σ0 (.inl none) τ 74 [(0, .ref (x0)), (3, .int (x3))] [] σ := by
  intro n
  induction n with
  | zero => intro x0 x3 σ hm; unfold L_X3_take_74 at hm; cases hm
  | succ n ih =>
    intro x0 x3 σ hm
    unfold L_X3_take_74 at hm
    obtain ⟨rc74, hrc⟩ : ∃ z, z = L_X3_take_74 b0 fu  n := ⟨_, rfl⟩
    replace hm := ltb_e hm hrc
    rw [← hrc] at ih
    have hrc74 := ih
    clear ih hrc
    refine zx_aload_n C dX3_take_74 0 rfl ?_
    obtain ⟨k10, i11, hm⟩ := ckO_e hm
    refine zx_get (j := 2) C tC_3 k10 i11 ⟨by decide, Or.inl W_2_63⟩ dX3_take_75 (.int (tI (σ) (x0) 2)) rfl ?_
    refine zx_if_le C 110 dX3_take_78 (by decide) (fun c12 => ?_) (fun c12 => ?_)
    · replace hm := ip_e hm c12
      exact zx_lv [0, 1] [(0, .ref (x0)), (3, .int (x3))] rfl (j_X3_take_110 C htab hin    hm)
    · replace hm := in_e hm c12
      refine zx_aload_n C dX3_take_81 0 rfl ?_
      obtain ⟨a15, h16, hm⟩ := osm_e hm
      refine zx_get (j := 0) C tC_3 k10 i11 ⟨by decide, Or.inl W_2_56⟩ dX3_take_82 (.ref a15) (rf_s h16) ?_
      refine zx_aload_n C dX3_take_85 0 rfl ?_
      refine zx_get (j := 2) C tC_3 k10 i11 ⟨by decide, Or.inl W_2_63⟩ dX3_take_86 (.int (tI (σ) (x0) 2)) rfl ?_
      refine zx_iconst (v := 1) C dX3_take_89 (by decide) ?_
      refine zx_isub C dX3_take_90 ?_
      obtain ⟨n19, k17, i18, hm⟩ := ckR_e hm
      obtain ⟨h20, hm⟩ := ckI_e hm
      refine zx_bald C k17 i18 h20 dX3_take_91 ?_
      refine zx_bipush (v := 47) C dX3_take_92 (by decide) ?_
      refine zx_icmp_eq C 110 dX3_take_94 (by decide) (fun c21 => ?_) (fun c21 => ?_)
      · replace hm := ip_e hm c21
        exact zx_lv [0, 1] [(0, .ref (x0)), (3, .int (x3))] rfl (j_X3_take_110 C htab hin    hm)
      · replace hm := in_e hm c21
        refine zx_aload_n C dX3_take_97 0 rfl ?_
        refine zx_dup C dX3_take_98 rfl ?_
        refine zx_get (j := 2) C tC_3 k10 i11 ⟨by decide, Or.inl W_2_63⟩ dX3_take_99 (.int (tI (σ) (x0) 2)) rfl ?_
        refine zx_iconst (v := 1) C dX3_take_102 (by decide) ?_
        refine zx_isub C dX3_take_103 ?_
        refine zx_put (j := 2) (ρ := sI (σ) (x0) 2 ((tI (σ) (x0) 2) - (1))) C tC_3 k10 i11 ⟨by decide, Or.inl W_2_63⟩ rfl rfl rfl (sI_ok (fun _ => rfl)) dX3_take_104 ?_
        refine zx_goto C 74 dX3_take_107 (by decide) ?_
        exact zx_lv [0, 1] [(0, .ref (x0)), (3, .int (x3))] rfl (hrc74 _ _ _ hm)
set_option maxRecDepth 100000 in
set_option maxHeartbeats 1000000 in
theorem j_X3_take_69 {p : Program} {l : Launch} {e : Env} {s : State} {m : MethodId} {args : Array Value} {below : List Frame} {meth : Method} {c : Code} {D : va_G} {aC : Nat → ClassId} {b0 fu : Nat} {σ0 τ : tM} {v : Unit}  (C : tCx p l s m args meth c yX3_take.cls cX3_take 4 none D aC b0 σ0) (htab : ∀ x ∈ c.exceptionTable.toList, False) (hin : meth.name = yX3_take.name)  {x0 : Nat} {x3 : Int32} {σ : tM} (hm : J_X3_take_69 b0 fu  x0 x3 σ = some (v, τ)) : tX p l e s m args below meth c 4 1 21 D aC b0 σ0 (.inl none) τ 69 [(0, .ref (x0)), (3, .int (x3))] [] σ := by
  unfold J_X3_take_69 at hm
  refine zx_aload_n C dX3_take_69 0 rfl ?_
  refine zx_iload_n C dX3_take_70 1 rfl ?_
  obtain ⟨k8, i9, hm⟩ := ckO_e hm
  refine zx_put (j := 2) (ρ := sI (σ) (x0) 2 (x3)) C tC_3 k8 i9 ⟨by decide, Or.inl W_2_63⟩ rfl rfl rfl (sI_ok (fun _ => rfl)) dX3_take_71 ?_
  exact zx_lv [0, 1] [(0, .ref (x0)), (3, .int (x3))] rfl (l_X3_take_74 C htab hin  _ _ _ _ hm)
set_option maxRecDepth 100000 in
set_option maxHeartbeats 1000000 in
theorem l_X3_take_46 {p : Program} {l : Launch} {e : Env} {s : State} {m : MethodId} {args : Array Value} {below : List Frame} {meth : Method} {c : Code} {D : va_G} {aC : Nat → ClassId} {b0 fu : Nat} {σ0 τ : tM} {v : Unit}  (C : tCx p l s m args meth c yX3_take.cls cX3_take 4 none D aC b0 σ0) (htab : ∀ x ∈ c.exceptionTable.toList, False) (hin : meth.name = yX3_take.name)  : ∀ (n : Nat) (x0 : Nat) (x3 : Int32) (σ : tM), L_X3_take_46 b0 fu  n x0 x3 σ = some (v, τ) → tX p l e s m args below meth c 4 1 21 D aC b0 σ0 (.inl none) τ 46 [(0, .ref (x0)), (3, .int (x3))] [] σ := by
  intro n
  induction n with
  | zero => intro x0 x3 σ hm; unfold L_X3_take_46 at hm; cases hm
  | succ n ih =>
    intro x0 x3 σ hm
    unfold L_X3_take_46 at hm
    obtain ⟨rc46, hrc⟩ : ∃ z, z = L_X3_take_46 b0 fu  n := ⟨_, rfl⟩
    replace hm := ltb_e hm hrc
    rw [← hrc] at ih
    have hrc46 := ih
    clear ih hrc
    refine zx_iload_n C dX3_take_46 1 rfl ?_
    refine zx_if_le C 69 dX3_take_47 (by decide) (fun c7 => ?_) (fun c7 => ?_)
    · replace hm := ip_e hm c7
      exact zx_lv [0, 1] [(0, .ref (x0)), (3, .int (x3))] rfl (j_X3_take_69 C htab hin    hm)
    · replace hm := in_e hm c7
      refine zx_aload_n C dX3_take_50 0 rfl ?_
      obtain ⟨k22, i23, hm⟩ := ckO_e hm
      obtain ⟨a24, h25, hm⟩ := osm_e hm
      refine zx_get (j := 0) C tC_3 k22 i23 ⟨by decide, Or.inl W_2_56⟩ dX3_take_51 (.ref a24) (rf_s h25) ?_
      refine zx_iload_n C dX3_take_54 1 rfl ?_
      refine zx_iconst (v := 1) C dX3_take_55 (by decide) ?_
      refine zx_isub C dX3_take_56 ?_
      obtain ⟨n28, k26, i27, hm⟩ := ckR_e hm
      obtain ⟨h29, hm⟩ := ckI_e hm
      refine zx_bald C k26 i27 h29 dX3_take_57 ?_
      refine zx_bipush (v := 47) C dX3_take_58 (by decide) ?_
      refine zx_icmp_ne C 69 dX3_take_60 (by decide) (fun c30 => ?_) (fun c30 => ?_)
      · replace hm := in_e hm c30
        exact zx_lv [0, 1] [(0, .ref (x0)), (3, .int (x3))] rfl (j_X3_take_69 C htab hin    hm)
      · replace hm := ip_e hm c30
        obtain ⟨y31, hy31⟩ : ∃ z : Int32, z = (x3) + Int32.ofInt (-1) := ⟨_, rfl⟩
        replace hm := ltb_e hm hy31
        refine zx_iinc C [(3, .int (y31)), (0, .ref (x0))] dX3_take_63 1 rfl hy31.symm (by decide) rfl ?_
        refine zx_goto C 46 dX3_take_66 (by decide) ?_
        exact zx_lv [1, 0] [(0, .ref (x0)), (3, .int (y31))] rfl (hrc46 _ _ _ hm)
set_option maxRecDepth 100000 in
set_option maxHeartbeats 1000000 in
theorem l_X3_take_16 {p : Program} {l : Launch} {e : Env} {s : State} {m : MethodId} {args : Array Value} {below : List Frame} {meth : Method} {c : Code} {D : va_G} {aC : Nat → ClassId} {b0 fu : Nat} {σ0 τ : tM} {v : Unit}  (C : tCx p l s m args meth c yX3_take.cls cX3_take 4 none D aC b0 σ0) (htab : ∀ x ∈ c.exceptionTable.toList, False) (hin : meth.name = yX3_take.name)  : ∀ (n : Nat) (x0 : Nat) (x1 : Nat) (x3 : Int32) (σ : tM), L_X3_take_16 b0 fu  n x0 x1 x3 σ = some (v, τ) → tX p l e s m args below meth c 4 1 21 D aC b0 σ0 (.inl none) τ 16 [(0, .ref (x0)), (1, .ref (x1)), (3, .int (x3))] [] σ := by
  intro n
  induction n with
  | zero => intro x0 x1 x3 σ hm; unfold L_X3_take_16 at hm; cases hm
  | succ n ih =>
    intro x0 x1 x3 σ hm
    unfold L_X3_take_16 at hm
    obtain ⟨rc16, hrc⟩ : ∃ z, z = L_X3_take_16 b0 fu  n := ⟨_, rfl⟩
    replace hm := ltb_e hm hrc
    rw [← hrc] at ih
    have hrc16 := ih
    clear ih hrc
    refine zx_iload_n C dX3_take_16 2 rfl ?_
    refine zx_aload_n C dX3_take_17 0 rfl ?_
    obtain ⟨k3, i4, hm⟩ := ckO_e hm
    refine zx_get (j := 1) C tC_3 k3 i4 ⟨by decide, Or.inl W_2_59⟩ dX3_take_18 (.int (tI (σ) (x0) 1)) rfl ?_
    refine zx_icmp_ge C 41 dX3_take_21 (by decide) (fun c5 => ?_) (fun c5 => ?_)
    · replace hm := ip_e hm c5
      refine zx_aload_n C dX3_take_41 0 rfl ?_
      refine zx_get (j := 1) C tC_3 k3 i4 ⟨by decide, Or.inl W_2_59⟩ dX3_take_42 (.int (tI (σ) (x0) 1)) rfl ?_
      refine zx_topi (fun y6 hy6 => ?_)
      replace hm := ltb_e hm hy6
      refine zx_istore_n C [(3, .int (y6)), (0, .ref (x0)), (1, .ref (x1))] dX3_take_45 rfl (by decide) rfl ?_
      exact zx_lv [1, 0] [(0, .ref (x0)), (3, .int (y6))] rfl (l_X3_take_46 C htab hin  _ _ _ _ hm)
    · replace hm := in_e hm c5
      refine zx_aload_n C dX3_take_24 0 rfl ?_
      obtain ⟨a32, h33, hm⟩ := osm_e hm
      refine zx_get (j := 0) C tC_3 k3 i4 ⟨by decide, Or.inl W_2_56⟩ dX3_take_25 (.ref a32) (rf_s h33) ?_
      refine zx_iload_n C dX3_take_28 2 rfl ?_
      refine zx_aload_n C dX3_take_29 1 rfl ?_
      refine zx_iload_n C dX3_take_30 2 rfl ?_
      obtain ⟨k34, i35, hm⟩ := ckO_e hm
      obtain ⟨v36, ρ37, h38, hm⟩ := cll_e hm
      refine zx_callV (σ := σ) C [.int (x3)] tC_6 k34 i35 Y_X6_octet W_3_34 W_3_35 W_3_36 (c_X6_octet h38) (by decide) (by decide) rfl (Nat.le_of_ble_eq_true rfl) dX3_take_31 rfl ?_
      obtain ⟨n41, k39, i40, hm⟩ := ckR_e hm
      obtain ⟨h42, hm⟩ := ckI_e hm
      refine zx_bast C k39 i40 h42 dX3_take_34 ?_
      obtain ⟨y43, hy43⟩ : ∃ z : Int32, z = (x3) + Int32.ofInt 1 := ⟨_, rfl⟩
      replace hm := ltb_e hm hy43
      refine zx_iinc C [(3, .int (y43)), (0, .ref (x0)), (1, .ref (x1))] dX3_take_35 2 rfl hy43.symm (by decide) rfl ?_
      refine zx_goto C 16 dX3_take_38 (by decide) ?_
      exact zx_lv [1, 2, 0] [(0, .ref (x0)), (1, .ref (x1)), (3, .int (y43))] rfl (hrc16 _ _ _ _ hm)
set_option maxRecDepth 100000 in
set_option maxHeartbeats 1000000 in
theorem c_X3_take {l : Launch} {D : va_G} {aC : Nat → ClassId} {b0 fu : Nat} {a0 : Nat} {p0 : Nat} {p1 : Int32} {σ τ : tM} {v : Unit} (hm : m_X3_take b0 fu a0 p0 p1 σ = some (v, τ)) : tMt l D aC b0 yX3_take (Cond.code yX3_take cX3_take 4 none) 1 21 [.ref (a0), .ref (p0), .int (p1)] σ (.inl none) τ := by
  unfold m_X3_take at hm
  obtain ⟨hg, hm⟩ := grw_e hm
  refine tMt_of (n := 0) rfl (Nat.le_of_ble_eq_true rfl) hg ?_
  intro p e s m below meth c C htab hin
  refine zx_lv [0, 1, 2] [(0, .ref (a0)), (1, .ref (p0)), (2, .int (p1))] rfl ?_
  refine zx_aload_n C dX3_take_0 0 rfl ?_
  refine zx_iconst (v := 0) C dX3_take_1 (by decide) ?_
  refine zx_iload_n C dX3_take_2 2 rfl ?_
  refine zx_bipush (v := 120) C dX3_take_3 (by decide) ?_
  refine zx_min C W_3_32 W_2_106 W_1_10 W_2_107 (by decide) (by decide) (Nat.le_of_ble_eq_true rfl) dX3_take_5 ?_
  refine zx_max C W_3_33 W_2_109 W_1_10 W_2_110 (by decide) (by decide) (Nat.le_of_ble_eq_true rfl) dX3_take_8 ?_
  obtain ⟨k1, i2, hm⟩ := ckO_e hm
  refine zx_put (j := 1) (ρ := sI (σ) (a0) 1 ((if ((0 : Int32)) < ((if ((120 : Int32)) < (p1) then (120) else (p1) : Int32)) then ((if ((120 : Int32)) < (p1) then (120) else (p1) : Int32)) else (0) : Int32))) C tC_3 k1 i2 ⟨by decide, Or.inl W_2_59⟩ rfl rfl rfl (sI_ok (fun _ => rfl)) dX3_take_11 ?_
  refine zx_iconst (v := 0) C dX3_take_14 (by decide) ?_
  refine zx_istore_n C [(3, .int (0)), (0, .ref (a0)), (1, .ref (p0)), (2, .int (p1))] dX3_take_15 rfl (by decide) rfl ?_
  exact zx_lv [1, 2, 0] [(0, .ref (a0)), (1, .ref (p0)), (3, .int (0))] rfl (l_X3_take_16 C htab hin  _ _ _ _ _ hm)
abbrev cX3_hasOwnLastName : ByteArray := prog_5_method_4_code
def yX3_hasOwnLastName : MethodName := ⟨"SyncTree$PathText", "hasOwnLastName", "()Z"⟩
theorem Y_X3_hasOwnLastName : tY yX3_hasOwnLastName cX3_hasOwnLastName 1 (some .boolean) 0 := ⟨W_4_143, W_1_9, ⟨by decide +kernel, by decide +kernel⟩, by decide +kernel⟩
theorem dX3_hasOwnLastName_0 : decode cX3_hasOwnLastName 0 = .ok (.aload_n 0, 1) := by decide +kernel
theorem dX3_hasOwnLastName_1 : decode cX3_hasOwnLastName 1 = .ok (.getfield 22, 3) := by decide +kernel
theorem dX3_hasOwnLastName_4 : decode cX3_hasOwnLastName 4 = .ok (.ifCond .le 25, 3) := by decide +kernel
theorem dX3_hasOwnLastName_7 : decode cX3_hasOwnLastName 7 = .ok (.aload_n 0, 1) := by decide +kernel
theorem dX3_hasOwnLastName_8 : decode cX3_hasOwnLastName 8 = .ok (.getfield 9, 3) := by decide +kernel
theorem dX3_hasOwnLastName_11 : decode cX3_hasOwnLastName 11 = .ok (.aload_n 0, 1) := by decide +kernel
theorem dX3_hasOwnLastName_12 : decode cX3_hasOwnLastName 12 = .ok (.getfield 19, 3) := by decide +kernel
theorem dX3_hasOwnLastName_15 : decode cX3_hasOwnLastName 15 = .ok (.aload_n 0, 1) := by decide +kernel
theorem dX3_hasOwnLastName_16 : decode cX3_hasOwnLastName 16 = .ok (.getfield 22, 3) := by decide +kernel
theorem dX3_hasOwnLastName_19 : decode cX3_hasOwnLastName 19 = .ok (.invokestatic 40, 3) := by decide +kernel
theorem dX3_hasOwnLastName_22 : decode cX3_hasOwnLastName 22 = .ok (.ifCond .ne 7, 3) := by decide +kernel
theorem dX3_hasOwnLastName_25 : decode cX3_hasOwnLastName 25 = .ok (.iconst 1, 1) := by decide +kernel
theorem dX3_hasOwnLastName_26 : decode cX3_hasOwnLastName 26 = .ok (.goto 4, 3) := by decide +kernel
theorem dX3_hasOwnLastName_29 : decode cX3_hasOwnLastName 29 = .ok (.iconst 0, 1) := by decide +kernel
theorem dX3_hasOwnLastName_30 : decode cX3_hasOwnLastName 30 = .ok (.ireturn, 1) := by decide +kernel
set_option maxRecDepth 100000 in
set_option maxHeartbeats 1000000 in
theorem j_X3_hasOwnLastName_30 {p : Program} {l : Launch} {e : Env} {s : State} {m : MethodId} {args : Array Value} {below : List Frame} {meth : Method} {c : Code} {D : va_G} {aC : Nat → ClassId} {b0 fu : Nat} {σ0 τ : tM} {v : Int32}  (C : tCx p l s m args meth c yX3_hasOwnLastName.cls cX3_hasOwnLastName 1 (some .boolean) D aC b0 σ0) (htab : ∀ x ∈ c.exceptionTable.toList, False) (hin : meth.name = yX3_hasOwnLastName.name)  {s0 : Int32} {σ : tM} (hm : J_X3_hasOwnLastName_30 b0 fu  s0 σ = some (v, τ)) : tX p l e s m args below meth c 1 1 22 D aC b0 σ0 (.inl (some (.int v))) τ 30 [] [.int (s0)] σ := by
  unfold J_X3_hasOwnLastName_30 at hm
  obtain ⟨h4, hm⟩ := ckZ_e hm
  obtain ⟨rfl, rfl⟩ := ret_e hm
  exact zx_zret C rfl h4 rfl rfl dX3_hasOwnLastName_30
set_option maxRecDepth 100000 in
set_option maxHeartbeats 1000000 in
theorem j_X3_hasOwnLastName_29 {p : Program} {l : Launch} {e : Env} {s : State} {m : MethodId} {args : Array Value} {below : List Frame} {meth : Method} {c : Code} {D : va_G} {aC : Nat → ClassId} {b0 fu : Nat} {σ0 τ : tM} {v : Int32}  (C : tCx p l s m args meth c yX3_hasOwnLastName.cls cX3_hasOwnLastName 1 (some .boolean) D aC b0 σ0) (htab : ∀ x ∈ c.exceptionTable.toList, False) (hin : meth.name = yX3_hasOwnLastName.name)   {σ : tM} (hm : J_X3_hasOwnLastName_29 b0 fu   σ = some (v, τ)) : tX p l e s m args below meth c 1 1 22 D aC b0 σ0 (.inl (some (.int v))) τ 29 [] [] σ := by
  unfold J_X3_hasOwnLastName_29 at hm
  refine zx_iconst (v := 0) C dX3_hasOwnLastName_29 (by decide) ?_
  exact zx_lv [] [] rfl (j_X3_hasOwnLastName_30 C htab hin    hm)
set_option maxRecDepth 100000 in
set_option maxHeartbeats 1000000 in
theorem c_X3_hasOwnLastName {l : Launch} {D : va_G} {aC : Nat → ClassId} {b0 fu : Nat} {a0 : Nat} {σ τ : tM} {v : Int32} (hm : m_X3_hasOwnLastName b0 fu a0 σ = some (v, τ)) : tMt l D aC b0 yX3_hasOwnLastName (Cond.code yX3_hasOwnLastName cX3_hasOwnLastName 1 (some .boolean)) 1 22 [.ref (a0)] σ (.inl (some (.int v))) τ := by
  unfold m_X3_hasOwnLastName at hm
  obtain ⟨hg, hm⟩ := grw_e hm
  refine tMt_of (n := 0) rfl (Nat.le_of_ble_eq_true rfl) hg ?_
  intro p e s m below meth c C htab hin
  refine zx_lv [0] [(0, .ref (a0))] rfl ?_
  refine zx_aload_n C dX3_hasOwnLastName_0 0 rfl ?_
  obtain ⟨k1, i2, hm⟩ := ckO_e hm
  refine zx_get (j := 3) C tC_3 k1 i2 ⟨by decide, Or.inl W_2_66⟩ dX3_hasOwnLastName_1 (.int (tI (σ) (a0) 3)) rfl ?_
  refine zx_if_le C 29 dX3_hasOwnLastName_4 (by decide) (fun c3 => ?_) (fun c3 => ?_)
  · replace hm := ip_e hm c3
    exact zx_lv [] [] rfl (j_X3_hasOwnLastName_29 C htab hin    hm)
  · replace hm := in_e hm c3
    refine zx_aload_n C dX3_hasOwnLastName_7 0 rfl ?_
    obtain ⟨a5, h6, hm⟩ := osm_e hm
    refine zx_get (j := 0) C tC_3 k1 i2 ⟨by decide, Or.inl W_2_56⟩ dX3_hasOwnLastName_8 (.ref a5) (rf_s h6) ?_
    refine zx_aload_n C dX3_hasOwnLastName_11 0 rfl ?_
    refine zx_get (j := 2) C tC_3 k1 i2 ⟨by decide, Or.inl W_2_63⟩ dX3_hasOwnLastName_12 (.int (tI (σ) (a0) 2)) rfl ?_
    refine zx_aload_n C dX3_hasOwnLastName_15 0 rfl ?_
    refine zx_get (j := 3) C tC_3 k1 i2 ⟨by decide, Or.inl W_2_66⟩ dX3_hasOwnLastName_16 (.int (tI (σ) (a0) 3)) rfl ?_
    obtain ⟨v7, ρ8, h9, hm⟩ := cll_e hm
    refine zx_callS (σ := σ) C [.ref (a5), .int (tI (σ) (a0) 2), .int (tI (σ) (a0) 3)] Y_X3_isDots W_4_144 W_4_94 (c_X3_isDots h9) (by decide) (by decide) rfl (Nat.le_of_ble_eq_true rfl) dX3_hasOwnLastName_19 rfl ?_
    refine zx_if_ne C 29 dX3_hasOwnLastName_22 (by decide) (fun c10 => ?_) (fun c10 => ?_)
    · replace hm := in_e hm c10
      exact zx_lv [] [] rfl (j_X3_hasOwnLastName_29 C htab hin    hm)
    · replace hm := ip_e hm c10
      refine zx_iconst (v := 1) C dX3_hasOwnLastName_25 (by decide) ?_
      refine zx_goto C 30 dX3_hasOwnLastName_26 (by decide) ?_
      exact zx_lv [] [] rfl (j_X3_hasOwnLastName_30 C htab hin    hm)
abbrev cX5_forgetMarks : ByteArray := prog_7_method_3_code
def yX5_forgetMarks : MethodName := ⟨"SyncTree$Space", "forgetMarks", "()V"⟩
theorem Y_X5_forgetMarks : tY yX5_forgetMarks cX5_forgetMarks 2 none 0 := ⟨W_2_118, W_1_3, ⟨by decide +kernel, by decide +kernel⟩, by decide +kernel⟩
theorem dX5_forgetMarks_0 : decode cX5_forgetMarks 0 = .ok (.iconst 0, 1) := by decide +kernel
theorem dX5_forgetMarks_1 : decode cX5_forgetMarks 1 = .ok (.istore_n 1, 1) := by decide +kernel
theorem dX5_forgetMarks_2 : decode cX5_forgetMarks 2 = .ok (.iload_n 1, 1) := by decide +kernel
theorem dX5_forgetMarks_3 : decode cX5_forgetMarks 3 = .ok (.aload_n 0, 1) := by decide +kernel
theorem dX5_forgetMarks_4 : decode cX5_forgetMarks 4 = .ok (.getfield 48, 3) := by decide +kernel
theorem dX5_forgetMarks_7 : decode cX5_forgetMarks 7 = .ok (.if_icmp .ge 21, 3) := by decide +kernel
theorem dX5_forgetMarks_10 : decode cX5_forgetMarks 10 = .ok (.aload_n 0, 1) := by decide +kernel
theorem dX5_forgetMarks_11 : decode cX5_forgetMarks 11 = .ok (.getfield 65, 3) := by decide +kernel
theorem dX5_forgetMarks_14 : decode cX5_forgetMarks 14 = .ok (.ifCond .le 14, 3) := by decide +kernel
theorem dX5_forgetMarks_17 : decode cX5_forgetMarks 17 = .ok (.aload_n 0, 1) := by decide +kernel
theorem dX5_forgetMarks_18 : decode cX5_forgetMarks 18 = .ok (.iload_n 1, 1) := by decide +kernel
theorem dX5_forgetMarks_19 : decode cX5_forgetMarks 19 = .ok (.invokevirtual 68, 3) := by decide +kernel
theorem dX5_forgetMarks_22 : decode cX5_forgetMarks 22 = .ok (.iinc 1 1, 3) := by decide +kernel
theorem dX5_forgetMarks_25 : decode cX5_forgetMarks 25 = .ok (.goto (-23), 3) := by decide +kernel
theorem dX5_forgetMarks_28 : decode cX5_forgetMarks 28 = .ok (.aload_n 0, 1) := by decide +kernel
theorem dX5_forgetMarks_29 : decode cX5_forgetMarks 29 = .ok (.aload_n 0, 1) := by decide +kernel
theorem dX5_forgetMarks_30 : decode cX5_forgetMarks 30 = .ok (.getfield 72, 3) := by decide +kernel
theorem dX5_forgetMarks_33 : decode cX5_forgetMarks 33 = .ok (.invokevirtual 75, 3) := by decide +kernel
theorem dX5_forgetMarks_36 : decode cX5_forgetMarks 36 = .ok (.return_, 1) := by decide +kernel
set_option maxRecDepth 100000 in
set_option maxHeartbeats 1000000 in
theorem j_X5_forgetMarks_28 {p : Program} {l : Launch} {e : Env} {s : State} {m : MethodId} {args : Array Value} {below : List Frame} {meth : Method} {c : Code} {D : va_G} {aC : Nat → ClassId} {b0 fu : Nat} {σ0 τ : tM} {v : Unit}  (C : tCx p l s m args meth c yX5_forgetMarks.cls cX5_forgetMarks 2 none D aC b0 σ0) (htab : ∀ x ∈ c.exceptionTable.toList, False) (hin : meth.name = yX5_forgetMarks.name)  {x0 : Nat} {σ : tM} (hm : J_X5_forgetMarks_28 b0 fu  x0 σ = some (v, τ)) : tX p l e s m args below meth c 2 1 22 D aC b0 σ0 (.inl none) τ 28 [(0, .ref (x0))] [] σ := by
  unfold J_X5_forgetMarks_28 at hm
  refine zx_aload_n C dX5_forgetMarks_28 0 rfl ?_
  refine zx_aload_n C dX5_forgetMarks_29 0 rfl ?_
  obtain ⟨k4, i5, hm⟩ := ckO_e hm
  refine zx_get (j := 16) C tC_5 k4 i5 ⟨by decide, Or.inl W_1_119⟩ dX5_forgetMarks_30 (.int (tI (σ) (x0) 16)) rfl ?_
  obtain ⟨v6, ρ7, h8, hm⟩ := cll_e hm
  refine zx_callV (σ := σ) C [.int (tI (σ) (x0) 16)] tC_5 k4 i5 Y_X5_emptyGroup W_2_123 W_2_124 W_2_125 (c_X5_emptyGroup h8) (by decide) (by decide) rfl (Nat.le_of_ble_eq_true rfl) dX5_forgetMarks_33 rfl ?_
  obtain ⟨rfl, rfl⟩ := ret_e hm
  exact zx_vret C rfl rfl rfl dX5_forgetMarks_36
set_option maxRecDepth 100000 in
set_option maxHeartbeats 1000000 in
theorem l_X5_forgetMarks_2 {p : Program} {l : Launch} {e : Env} {s : State} {m : MethodId} {args : Array Value} {below : List Frame} {meth : Method} {c : Code} {D : va_G} {aC : Nat → ClassId} {b0 fu : Nat} {σ0 τ : tM} {v : Unit}  (C : tCx p l s m args meth c yX5_forgetMarks.cls cX5_forgetMarks 2 none D aC b0 σ0) (htab : ∀ x ∈ c.exceptionTable.toList, False) (hin : meth.name = yX5_forgetMarks.name)  : ∀ (n : Nat) (x0 : Nat) (x1 : Int32) (σ : tM), L_X5_forgetMarks_2 b0 fu  n x0 x1 σ = some (v, τ) → tX p l e s m args below meth c 2 1 22 D aC b0 σ0 (.inl none) τ 2 [(0, .ref (x0)), (1, .int (x1))] [] σ := by
  intro n
  induction n with
  | zero => intro x0 x1 σ hm; unfold L_X5_forgetMarks_2 at hm; cases hm
  | succ n ih =>
    intro x0 x1 σ hm
    unfold L_X5_forgetMarks_2 at hm
    obtain ⟨rc2, hrc⟩ : ∃ z, z = L_X5_forgetMarks_2 b0 fu  n := ⟨_, rfl⟩
    replace hm := ltb_e hm hrc
    rw [← hrc] at ih
    have hrc2 := ih
    clear ih hrc
    refine zx_iload_n C dX5_forgetMarks_2 1 rfl ?_
    refine zx_aload_n C dX5_forgetMarks_3 0 rfl ?_
    obtain ⟨k1, i2, hm⟩ := ckO_e hm
    refine zx_get (j := 7) C tC_5 k1 i2 ⟨by decide, Or.inl W_1_104⟩ dX5_forgetMarks_4 (.int (tI (σ) (x0) 7)) rfl ?_
    refine zx_icmp_ge C 28 dX5_forgetMarks_7 (by decide) (fun c3 => ?_) (fun c3 => ?_)
    · replace hm := ip_e hm c3
      exact zx_lv [0] [(0, .ref (x0))] rfl (j_X5_forgetMarks_28 C htab hin    hm)
    · replace hm := in_e hm c3
      refine zx_aload_n C dX5_forgetMarks_10 0 rfl ?_
      refine zx_get (j := 13) C tC_5 k1 i2 ⟨by decide, Or.inl W_1_115⟩ dX5_forgetMarks_11 (.int (tI (σ) (x0) 13)) rfl ?_
      refine zx_if_le C 28 dX5_forgetMarks_14 (by decide) (fun c9 => ?_) (fun c9 => ?_)
      · replace hm := ip_e hm c9
        exact zx_lv [0] [(0, .ref (x0))] rfl (j_X5_forgetMarks_28 C htab hin    hm)
      · replace hm := in_e hm c9
        refine zx_aload_n C dX5_forgetMarks_17 0 rfl ?_
        refine zx_iload_n C dX5_forgetMarks_18 1 rfl ?_
        obtain ⟨v10, ρ11, h12, hm⟩ := cll_e hm
        refine zx_callV (σ := σ) C [.int (x1)] tC_5 k1 i2 Y_X5_clean W_2_119 W_2_120 W_2_121 (c_X5_clean h12) (by decide) (by decide) rfl (Nat.le_of_ble_eq_true rfl) dX5_forgetMarks_19 rfl ?_
        obtain ⟨y13, hy13⟩ : ∃ z : Int32, z = (x1) + Int32.ofInt 1 := ⟨_, rfl⟩
        replace hm := ltb_e hm hy13
        refine zx_iinc C [(1, .int (y13)), (0, .ref (x0))] dX5_forgetMarks_22 1 rfl hy13.symm (by decide) rfl ?_
        refine zx_goto C 2 dX5_forgetMarks_25 (by decide) ?_
        exact zx_lv [1, 0] [(0, .ref (x0)), (1, .int (y13))] rfl (hrc2 _ _ _ hm)
set_option maxRecDepth 100000 in
set_option maxHeartbeats 1000000 in
theorem c_X5_forgetMarks {l : Launch} {D : va_G} {aC : Nat → ClassId} {b0 fu : Nat} {a0 : Nat} {σ τ : tM} {v : Unit} (hm : m_X5_forgetMarks b0 fu a0 σ = some (v, τ)) : tMt l D aC b0 yX5_forgetMarks (Cond.code yX5_forgetMarks cX5_forgetMarks 2 none) 1 22 [.ref (a0)] σ (.inl none) τ := by
  unfold m_X5_forgetMarks at hm
  obtain ⟨hg, hm⟩ := grw_e hm
  refine tMt_of (n := 0) rfl (Nat.le_of_ble_eq_true rfl) hg ?_
  intro p e s m below meth c C htab hin
  refine zx_lv [0] [(0, .ref (a0))] rfl ?_
  refine zx_iconst (v := 0) C dX5_forgetMarks_0 (by decide) ?_
  refine zx_istore_n C [(1, .int (0)), (0, .ref (a0))] dX5_forgetMarks_1 rfl (by decide) rfl ?_
  exact zx_lv [1, 0] [(0, .ref (a0)), (1, .int (0))] rfl (l_X5_forgetMarks_2 C htab hin  _ _ _ _ hm)
