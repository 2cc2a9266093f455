abbrev cX5_setSpan : ByteArray := prog_7_method_16_code
def yX5_setSpan : MethodName := ⟨"SyncTree$Space", "setSpan", "(IIII)V"⟩
theorem Y_X5_setSpan : tY yX5_setSpan cX5_setSpan 9 none 4 := ⟨W_5_77, W_1_3, ⟨by decide +kernel, by decide +kernel⟩, by decide +kernel⟩
theorem dX5_setSpan_0 : decode cX5_setSpan 0 = .ok (.iload 4, 2) := by decide +kernel
theorem dX5_setSpan_2 : decode cX5_setSpan 2 = .ok (.sipush 255, 3) := by decide +kernel
theorem dX5_setSpan_5 : decode cX5_setSpan 5 = .ok (.iand, 1) := by decide +kernel
theorem dX5_setSpan_6 : decode cX5_setSpan 6 = .ok (.i2l, 1) := by decide +kernel
theorem dX5_setSpan_7 : decode cX5_setSpan 7 = .ok (.ldc2_w 104, 3) := by decide +kernel
theorem dX5_setSpan_10 : decode cX5_setSpan 10 = .ok (.lmul, 1) := by decide +kernel
theorem dX5_setSpan_11 : decode cX5_setSpan 11 = .ok (.lstore 5, 2) := by decide +kernel
theorem dX5_setSpan_13 : decode cX5_setSpan 13 = .ok (.iload_n 3, 1) := by decide +kernel
theorem dX5_setSpan_14 : decode cX5_setSpan 14 = .ok (.sipush 256, 3) := by decide +kernel
theorem dX5_setSpan_17 : decode cX5_setSpan 17 = .ok (.invokestatic 39, 3) := by decide +kernel
theorem dX5_setSpan_20 : decode cX5_setSpan 20 = .ok (.istore 7, 2) := by decide +kernel
theorem dX5_setSpan_22 : decode cX5_setSpan 22 = .ok (.iload_n 2, 1) := by decide +kernel
theorem dX5_setSpan_23 : decode cX5_setSpan 23 = .ok (.iconst 0, 1) := by decide +kernel
theorem dX5_setSpan_24 : decode cX5_setSpan 24 = .ok (.invokestatic 45, 3) := by decide +kernel
theorem dX5_setSpan_27 : decode cX5_setSpan 27 = .ok (.istore 8, 2) := by decide +kernel
theorem dX5_setSpan_29 : decode cX5_setSpan 29 = .ok (.iload 8, 2) := by decide +kernel
theorem dX5_setSpan_31 : decode cX5_setSpan 31 = .ok (.iload 7, 2) := by decide +kernel
theorem dX5_setSpan_33 : decode cX5_setSpan 33 = .ok (.if_icmp .ge 70, 3) := by decide +kernel
theorem dX5_setSpan_36 : decode cX5_setSpan 36 = .ok (.iload 8, 2) := by decide +kernel
theorem dX5_setSpan_38 : decode cX5_setSpan 38 = .ok (.bipush 7, 2) := by decide +kernel
theorem dX5_setSpan_40 : decode cX5_setSpan 40 = .ok (.iand, 1) := by decide +kernel
theorem dX5_setSpan_41 : decode cX5_setSpan 41 = .ok (.ifCond .ne 47, 3) := by decide +kernel
theorem dX5_setSpan_44 : decode cX5_setSpan 44 = .ok (.iload 7, 2) := by decide +kernel
theorem dX5_setSpan_46 : decode cX5_setSpan 46 = .ok (.iload 8, 2) := by decide +kernel
theorem dX5_setSpan_48 : decode cX5_setSpan 48 = .ok (.isub, 1) := by decide +kernel
theorem dX5_setSpan_49 : decode cX5_setSpan 49 = .ok (.bipush 8, 2) := by decide +kernel
theorem dX5_setSpan_51 : decode cX5_setSpan 51 = .ok (.if_icmp .lt 37, 3) := by decide +kernel
theorem dX5_setSpan_54 : decode cX5_setSpan 54 = .ok (.iload_n 1, 1) := by decide +kernel
theorem dX5_setSpan_55 : decode cX5_setSpan 55 = .ok (.ifCond .le 33, 3) := by decide +kernel
theorem dX5_setSpan_58 : decode cX5_setSpan 58 = .ok (.iload_n 1, 1) := by decide +kernel
theorem dX5_setSpan_59 : decode cX5_setSpan 59 = .ok (.aload_n 0, 1) := by decide +kernel
theorem dX5_setSpan_60 : decode cX5_setSpan 60 = .ok (.getfield 48, 3) := by decide +kernel
theorem dX5_setSpan_63 : decode cX5_setSpan 63 = .ok (.if_icmp .ge 25, 3) := by decide +kernel
theorem dX5_setSpan_66 : decode cX5_setSpan 66 = .ok (.aload_n 0, 1) := by decide +kernel
theorem dX5_setSpan_67 : decode cX5_setSpan 67 = .ok (.getfield 10, 3) := by decide +kernel
theorem dX5_setSpan_70 : decode cX5_setSpan 70 = .ok (.iload_n 1, 1) := by decide +kernel
theorem dX5_setSpan_71 : decode cX5_setSpan 71 = .ok (.bipush 32, 2) := by decide +kernel
theorem dX5_setSpan_73 : decode cX5_setSpan 73 = .ok (.imul, 1) := by decide +kernel
theorem dX5_setSpan_74 : decode cX5_setSpan 74 = .ok (.iload 8, 2) := by decide +kernel
theorem dX5_setSpan_76 : decode cX5_setSpan 76 = .ok (.iconst 3, 1) := by decide +kernel
theorem dX5_setSpan_77 : decode cX5_setSpan 77 = .ok (.ishr, 1) := by decide +kernel
theorem dX5_setSpan_78 : decode cX5_setSpan 78 = .ok (.iadd, 1) := by decide +kernel
theorem dX5_setSpan_79 : decode cX5_setSpan 79 = .ok (.lload 5, 2) := by decide +kernel
theorem dX5_setSpan_81 : decode cX5_setSpan 81 = .ok (.lastore, 1) := by decide +kernel
theorem dX5_setSpan_82 : decode cX5_setSpan 82 = .ok (.iinc 8 8, 3) := by decide +kernel
theorem dX5_setSpan_85 : decode cX5_setSpan 85 = .ok (.goto (-56), 3) := by decide +kernel
theorem dX5_setSpan_88 : decode cX5_setSpan 88 = .ok (.aload_n 0, 1) := by decide +kernel
theorem dX5_setSpan_89 : decode cX5_setSpan 89 = .ok (.iload_n 1, 1) := by decide +kernel
theorem dX5_setSpan_90 : decode cX5_setSpan 90 = .ok (.iload 8, 2) := by decide +kernel
theorem dX5_setSpan_92 : decode cX5_setSpan 92 = .ok (.iload 4, 2) := by decide +kernel
theorem dX5_setSpan_94 : decode cX5_setSpan 94 = .ok (.invokevirtual 106, 3) := by decide +kernel
theorem dX5_setSpan_97 : decode cX5_setSpan 97 = .ok (.iinc 8 1, 3) := by decide +kernel
theorem dX5_setSpan_100 : decode cX5_setSpan 100 = .ok (.goto (-71), 3) := by decide +kernel
theorem dX5_setSpan_103 : decode cX5_setSpan 103 = .ok (.return_, 1) := by decide +kernel
def J_X5_setSpan_88 (b0 fu : Nat) (rc29 : Nat → Int32 → Int32 → Int64 → Int32 → Int32 → tM → Option ((Unit) × tM)) (x0 : Nat) (x1 : Int32) (x4 : Int32) (x5 : Int64) (x7 : Int32) (x8 : Int32) (σ : tM) : Option ((Unit) × tM) := ckO b0 (σ) (x0) 5 (cll (m_X5_setOctet b0 fu (x0) (x1) (x8) (x4) (σ)) (fun v8 ρ9 => ltb ((x8) + Int32.ofInt 1) (fun y11 => rc29 (x0) (x1) (x4) (x5) (x7) (y11) (ρ9))))
def L_X5_setSpan_29 (b0 fu : Nat)  : Nat → Nat → Int32 → Int32 → Int64 → Int32 → Int32 → tM → Option ((Unit) × tM)
  | 0, _, _, _, _, _, _, _ => none
  | n + 1, x0, x1, x4, x5, x7, x8, σ => ltb (L_X5_setSpan_29 b0 fu  n) (fun rc29 => if (x7) ≤ (x8) then some ((), σ) else if ((x8) &&& (7)) = (0) then if ((x7) - (x8)) < (8) then J_X5_setSpan_88 b0 fu rc29  (x0) (x1) (x4) (x5) (x7) (x8) (σ) else if (x1) ≤ (0) then J_X5_setSpan_88 b0 fu rc29  (x0) (x1) (x4) (x5) (x7) (x8) (σ) else ckO b0 (σ) (x0) 5 (if (tI (σ) (x0) 7) ≤ (x1) then J_X5_setSpan_88 b0 fu rc29  (x0) (x1) (x4) (x5) (x7) (x8) (σ) else osm (tA (σ) (x0) 0) (fun a17 => ckR b0 (σ) (a17) 3 (fun n21 => ckI (((x1) * (32)) + ((x8) >>> (((3 : Int32)) &&& 31))) (n21) (ltb ((x8) + Int32.ofInt 8) (fun y23 => rc29 (x0) (x1) (x4) (x5) (x7) (y23) (sL (σ) (a17) ((((x1) * (32)) + ((x8) >>> (((3 : Int32)) &&& 31))).toNatClampNeg) (x5))))))) else J_X5_setSpan_88 b0 fu rc29  (x0) (x1) (x4) (x5) (x7) (x8) (σ))
def m_X5_setSpan (b0 fu : Nat) (a0 : Nat) (p0 : Int32) (p1 : Int32) (p2 : Int32) (p3 : Int32) (σ : tM) : Option ((Unit) × tM) := grw σ (ltb (((((p3) &&& (255)).toInt64) * (72340172838076673) : Int64)) (fun y1 => ltb (((if ((256 : Int32)) < (p2) then (256) else (p2) : Int32) : Int32)) (fun y2 => ltb (((if (p1) < ((0 : Int32)) then (0) else (p1) : Int32) : Int32)) (fun y3 => L_X5_setSpan_29 b0 fu  (fu) (a0) (p0) (p3) (y1) (y2) (y3) (σ)))))
set_option maxRecDepth 100000 in
set_option maxHeartbeats 1000000 in
theorem j_X5_setSpan_88 {p : Program} {l : Launch} {e : Env} {s : State} {m : MethodId} {args : Array Value} {below : List Frame} {meth : Method} {c : Code} {D : va_G} {aC : Nat → ClassId} {b0 fu : Nat} {σ0 τ : tM} {v : Unit} {rc29 : Nat → Int32 → Int32 → Int64 → Int32 → Int32 → tM → Option ((Unit) × tM)} (C : tCx p s m args meth c yX5_setSpan.cls cX5_setSpan 9 none D aC b0 σ0) (htab : ∀ x ∈ c.exceptionTable.toList, False) (hin : meth.name = yX5_setSpan.name) (hrc29 : ∀ (x0 : Nat) (x1 : Int32) (x4 : Int32) (x5 : Int64) (x7 : Int32) (x8 : Int32) (ρ : tM), rc29 x0 x1 x4 x5 x7 x8 ρ = some (v, τ) → tX p l e s m args below meth c 9 1 25 D aC b0 σ0 (.inl none) τ 29 [(0, .ref (x0)), (1, .int (x1)), (4, .int (x4)), (5, .long (x5)), (7, .int (x7)), (8, .int (x8))] [] ρ) {x0 : Nat} {x1 : Int32} {x4 : Int32} {x5 : Int64} {x7 : Int32} {x8 : Int32} {σ : tM} (hm : J_X5_setSpan_88 b0 fu rc29 x0 x1 x4 x5 x7 x8 σ = some (v, τ)) : tX p l e s m args below meth c 9 1 25 D aC b0 σ0 (.inl none) τ 88 [(0, .ref (x0)), (1, .int (x1)), (4, .int (x4)), (5, .long (x5)), (7, .int (x7)), (8, .int (x8))] [] σ := by
  unfold J_X5_setSpan_88 at hm
  refine zx_aload_n C dX5_setSpan_88 0 rfl ?_
  refine zx_iload_n C dX5_setSpan_89 1 rfl ?_
  refine zx_iload C dX5_setSpan_90 5 rfl ?_
  refine zx_iload C dX5_setSpan_92 2 rfl ?_
  obtain ⟨k6, i7, hm⟩ := ckO_e hm
  obtain ⟨v8, ρ9, h10, hm⟩ := cll_e hm
  refine zx_callV (σ := σ) C [.int (x1), .int (x8), .int (x4)] tC_5 k6 i7 Y_X5_setOctet W_5_79 W_4_181 W_4_182 (c_X5_setOctet h10) (by decide) (by decide) rfl (Nat.le_of_ble_eq_true rfl) dX5_setSpan_94 rfl ?_
  obtain ⟨y11, hy11⟩ : ∃ z : Int32, z = (x8) + Int32.ofInt 1 := ⟨_, rfl⟩
  replace hm := ltb_e hm hy11
  refine zx_iinc C [(8, .int (y11)), (0, .ref (x0)), (1, .int (x1)), (4, .int (x4)), (5, .long (x5)), (7, .int (x7))] dX5_setSpan_97 5 rfl hy11.symm (by decide) rfl ?_
  refine zx_goto C 29 dX5_setSpan_100 (by decide) ?_
  exact zx_lv [1, 2, 3, 4, 5, 0] [(0, .ref (x0)), (1, .int (x1)), (4, .int (x4)), (5, .long (x5)), (7, .int (x7)), (8, .int (y11))] rfl (hrc29 _ _ _ _ _ _ _ hm)
set_option maxRecDepth 100000 in
set_option maxHeartbeats 1000000 in
theorem l_X5_setSpan_29 {p : Program} {l : Launch} {e : Env} {s : State} {m : MethodId} {args : Array Value} {below : List Frame} {meth : Method} {c : Code} {D : va_G} {aC : Nat → ClassId} {b0 fu : Nat} {σ0 τ : tM} {v : Unit}  (C : tCx p s m args meth c yX5_setSpan.cls cX5_setSpan 9 none D aC b0 σ0) (htab : ∀ x ∈ c.exceptionTable.toList, False) (hin : meth.name = yX5_setSpan.name)  : ∀ (n : Nat) (x0 : Nat) (x1 : Int32) (x4 : Int32) (x5 : Int64) (x7 : Int32) (x8 : Int32) (σ : tM), L_X5_setSpan_29 b0 fu  n x0 x1 x4 x5 x7 x8 σ = some (v, τ) → tX p l e s m args below meth c 9 1 25 D aC b0 σ0 (.inl none) τ 29 [(0, .ref (x0)), (1, .int (x1)), (4, .int (x4)), (5, .long (x5)), (7, .int (x7)), (8, .int (x8))] [] σ := by
  intro n
  induction n with
  | zero => intro x0 x1 x4 x5 x7 x8 σ hm; unfold L_X5_setSpan_29 at hm; cases hm
  | succ n ih =>
    intro x0 x1 x4 x5 x7 x8 σ hm
    unfold L_X5_setSpan_29 at hm
    obtain ⟨rc29, hrc⟩ : ∃ z, z = L_X5_setSpan_29 b0 fu  n := ⟨_, rfl⟩
    replace hm := ltb_e hm hrc
    rw [← hrc] at ih
    have hrc29 := ih
    clear ih hrc
    refine zx_iload C dX5_setSpan_29 5 rfl ?_
    refine zx_iload C dX5_setSpan_31 4 rfl ?_
    refine zx_icmp_ge C 103 dX5_setSpan_33 (by decide) (fun c4 => ?_) (fun c4 => ?_)
    · replace hm := ip_e hm c4
      obtain ⟨rfl, rfl⟩ := ret_e hm
      exact zx_vret C rfl rfl rfl dX5_setSpan_103
    · replace hm := in_e hm c4
      refine zx_iload C dX5_setSpan_36 5 rfl ?_
      refine zx_bipush (v := 7) C dX5_setSpan_38 (by decide) ?_
      refine zx_iand C dX5_setSpan_40 ?_
      refine zx_if_ne C 88 dX5_setSpan_41 (by decide) (fun c5 => ?_) (fun c5 => ?_)
      · replace hm := in_e hm c5
        exact zx_lv [0, 1, 2, 3, 4, 5] [(0, .ref (x0)), (1, .int (x1)), (4, .int (x4)), (5, .long (x5)), (7, .int (x7)), (8, .int (x8))] rfl (j_X5_setSpan_88 C htab hin hrc29   hm)
      · replace hm := ip_e hm c5
        refine zx_iload C dX5_setSpan_44 4 rfl ?_
        refine zx_iload C dX5_setSpan_46 5 rfl ?_
        refine zx_isub C dX5_setSpan_48 ?_
        refine zx_bipush (v := 8) C dX5_setSpan_49 (by decide) ?_
        refine zx_icmp_lt C 88 dX5_setSpan_51 (by decide) (fun c12 => ?_) (fun c12 => ?_)
        · replace hm := ip_e hm c12
          exact zx_lv [0, 1, 2, 3, 4, 5] [(0, .ref (x0)), (1, .int (x1)), (4, .int (x4)), (5, .long (x5)), (7, .int (x7)), (8, .int (x8))] rfl (j_X5_setSpan_88 C htab hin hrc29   hm)
        · replace hm := in_e hm c12
          refine zx_iload_n C dX5_setSpan_54 1 rfl ?_
          refine zx_if_le C 88 dX5_setSpan_55 (by decide) (fun c13 => ?_) (fun c13 => ?_)
          · replace hm := ip_e hm c13
            exact zx_lv [0, 1, 2, 3, 4, 5] [(0, .ref (x0)), (1, .int (x1)), (4, .int (x4)), (5, .long (x5)), (7, .int (x7)), (8, .int (x8))] rfl (j_X5_setSpan_88 C htab hin hrc29   hm)
          · replace hm := in_e hm c13
            refine zx_iload_n C dX5_setSpan_58 1 rfl ?_
            refine zx_aload_n C dX5_setSpan_59 0 rfl ?_
            obtain ⟨k14, i15, hm⟩ := ckO_e hm
            refine zx_get (j := 7) C tC_5 k14 i15 ⟨by decide, Or.inl W_1_104⟩ dX5_setSpan_60 (.int (tI (σ) (x0) 7)) rfl ?_
            refine zx_icmp_ge C 88 dX5_setSpan_63 (by decide) (fun c16 => ?_) (fun c16 => ?_)
            · replace hm := ip_e hm c16
              exact zx_lv [0, 1, 2, 3, 4, 5] [(0, .ref (x0)), (1, .int (x1)), (4, .int (x4)), (5, .long (x5)), (7, .int (x7)), (8, .int (x8))] rfl (j_X5_setSpan_88 C htab hin hrc29   hm)
            · replace hm := in_e hm c16
              refine zx_aload_n C dX5_setSpan_66 0 rfl ?_
              obtain ⟨a17, h18, hm⟩ := osm_e hm
              refine zx_get (j := 0) C tC_5 k14 i15 ⟨by decide, Or.inl W_1_94⟩ dX5_setSpan_67 (.ref a17) (rf_s h18) ?_
              refine zx_iload_n C dX5_setSpan_70 1 rfl ?_
              refine zx_bipush (v := 32) C dX5_setSpan_71 (by decide) ?_
              refine zx_imul C dX5_setSpan_73 ?_
              refine zx_iload C dX5_setSpan_74 5 rfl ?_
              refine zx_iconst (v := 3) C dX5_setSpan_76 (by decide) ?_
              refine zx_ishr C dX5_setSpan_77 ?_
              refine zx_iadd C dX5_setSpan_78 ?_
              refine zx_lload C dX5_setSpan_79 3 rfl ?_
              obtain ⟨n21, k19, i20, hm⟩ := ckR_e hm
              obtain ⟨h22, hm⟩ := ckI_e hm
              refine zx_last C k19 i20 h22 dX5_setSpan_81 ?_
              obtain ⟨y23, hy23⟩ : ∃ z : Int32, z = (x8) + Int32.ofInt 8 := ⟨_, rfl⟩
              replace hm := ltb_e hm hy23
              refine zx_iinc C [(8, .int (y23)), (0, .ref (x0)), (1, .int (x1)), (4, .int (x4)), (5, .long (x5)), (7, .int (x7))] dX5_setSpan_82 5 rfl hy23.symm (by decide) rfl ?_
              refine zx_goto C 29 dX5_setSpan_85 (by decide) ?_
              exact zx_lv [1, 2, 3, 4, 5, 0] [(0, .ref (x0)), (1, .int (x1)), (4, .int (x4)), (5, .long (x5)), (7, .int (x7)), (8, .int (y23))] rfl (hrc29 _ _ _ _ _ _ _ hm)
set_option maxRecDepth 100000 in
set_option maxHeartbeats 1000000 in
theorem c_X5_setSpan {l : Launch} {D : va_G} {aC : Nat → ClassId} {b0 fu : Nat} {a0 : Nat} {p0 : Int32} {p1 : Int32} {p2 : Int32} {p3 : Int32} {σ τ : tM} {v : Unit} (hm : m_X5_setSpan b0 fu a0 p0 p1 p2 p3 σ = some (v, τ)) : tMt l D aC b0 yX5_setSpan (Cond.code yX5_setSpan cX5_setSpan 9 none) 1 25 [.ref (a0), .int (p0), .int (p1), .int (p2), .int (p3)] σ (.inl none) τ := by
  unfold m_X5_setSpan at hm
  obtain ⟨hg, hm⟩ := grw_e hm
  refine tMt_of (n := 0) rfl (Nat.le_of_ble_eq_true rfl) hg ?_
  intro p e s m below meth c C htab hin
  refine zx_lv [0, 1, 2, 3, 4] [(0, .ref (a0)), (1, .int (p0)), (2, .int (p1)), (3, .int (p2)), (4, .int (p3))] rfl ?_
  refine zx_iload C dX5_setSpan_0 4 rfl ?_
  refine zx_sipush (v := 255) C dX5_setSpan_2 (by decide) ?_
  refine zx_iand C dX5_setSpan_5 ?_
  refine zx_i2l C dX5_setSpan_6 ?_
  refine zx_ldc2 (v := 72340172838076673) C W_5_78 dX5_setSpan_7 ?_
  refine zx_lmul C dX5_setSpan_10 ?_
  refine zx_topl (fun y1 hy1 => ?_)
  replace hm := ltb_e hm hy1
  refine zx_lstore C [(5, .long (y1)), (0, .ref (a0)), (1, .int (p0)), (2, .int (p1)), (3, .int (p2)), (4, .int (p3))] dX5_setSpan_11 (by decide) rfl ?_
  refine zx_iload_n C dX5_setSpan_13 4 rfl ?_
  refine zx_sipush (v := 256) C dX5_setSpan_14 (by decide) ?_
  refine zx_min C W_2_127 W_2_106 W_1_10 W_2_107 (by decide) (by decide) (Nat.le_of_ble_eq_true rfl) dX5_setSpan_17 ?_
  refine zx_topi (fun y2 hy2 => ?_)
  replace hm := ltb_e hm hy2
  refine zx_istore C [(7, .int (y2)), (5, .long (y1)), (0, .ref (a0)), (1, .int (p0)), (2, .int (p1)), (3, .int (p2)), (4, .int (p3))] dX5_setSpan_20 (by decide) rfl ?_
  refine zx_iload_n C dX5_setSpan_22 4 rfl ?_
  refine zx_iconst (v := 0) C dX5_setSpan_23 (by decide) ?_
  refine zx_max C W_2_128 W_2_109 W_1_10 W_2_110 (by decide) (by decide) (Nat.le_of_ble_eq_true rfl) dX5_setSpan_24 ?_
  refine zx_topi (fun y3 hy3 => ?_)
  replace hm := ltb_e hm hy3
  refine zx_istore C [(8, .int (y3)), (7, .int (y2)), (5, .long (y1)), (0, .ref (a0)), (1, .int (p0)), (2, .int (p1)), (3, .int (p2)), (4, .int (p3))] dX5_setSpan_27 (by decide) rfl ?_
  exact zx_lv [3, 4, 7, 2, 1, 0] [(0, .ref (a0)), (1, .int (p0)), (4, .int (p3)), (5, .long (y1)), (7, .int (y2)), (8, .int (y3))] rfl (l_X5_setSpan_29 C htab hin  _ _ _ _ _ _ _ _ hm)
abbrev cX5_isZeroFrom : ByteArray := prog_7_method_17_code
def yX5_isZeroFrom : MethodName := ⟨"SyncTree$Space", "isZeroFrom", "(II)Z"⟩
theorem Y_X5_isZeroFrom : tY yX5_isZeroFrom cX5_isZeroFrom 4 (some .boolean) 2 := ⟨W_5_40, W_1_3, ⟨by decide +kernel, by decide +kernel⟩, by decide +kernel⟩
theorem dX5_isZeroFrom_0 : decode cX5_isZeroFrom 0 = .ok (.iload_n 2, 1) := by decide +kernel
theorem dX5_isZeroFrom_1 : decode cX5_isZeroFrom 1 = .ok (.iconst 0, 1) := by decide +kernel
theorem dX5_isZeroFrom_2 : decode cX5_isZeroFrom 2 = .ok (.invokestatic 45, 3) := by decide +kernel
theorem dX5_isZeroFrom_5 : decode cX5_isZeroFrom 5 = .ok (.istore_n 3, 1) := by decide +kernel
theorem dX5_isZeroFrom_6 : decode cX5_isZeroFrom 6 = .ok (.iload_n 3, 1) := by decide +kernel
theorem dX5_isZeroFrom_7 : decode cX5_isZeroFrom 7 = .ok (.sipush 256, 3) := by decide +kernel
theorem dX5_isZeroFrom_10 : decode cX5_isZeroFrom 10 = .ok (.if_icmp .ge 48, 3) := by decide +kernel
theorem dX5_isZeroFrom_13 : decode cX5_isZeroFrom 13 = .ok (.iload_n 3, 1) := by decide +kernel
theorem dX5_isZeroFrom_14 : decode cX5_isZeroFrom 14 = .ok (.bipush 7, 2) := by decide +kernel
theorem dX5_isZeroFrom_16 : decode cX5_isZeroFrom 16 = .ok (.iand, 1) := by decide +kernel
theorem dX5_isZeroFrom_17 : decode cX5_isZeroFrom 17 = .ok (.ifCond .ne 24, 3) := by decide +kernel
theorem dX5_isZeroFrom_20 : decode cX5_isZeroFrom 20 = .ok (.aload_n 0, 1) := by decide +kernel
theorem dX5_isZeroFrom_21 : decode cX5_isZeroFrom 21 = .ok (.iload_n 1, 1) := by decide +kernel
theorem dX5_isZeroFrom_22 : decode cX5_isZeroFrom 22 = .ok (.iload_n 3, 1) := by decide +kernel
theorem dX5_isZeroFrom_23 : decode cX5_isZeroFrom 23 = .ok (.iconst 3, 1) := by decide +kernel
theorem dX5_isZeroFrom_24 : decode cX5_isZeroFrom 24 = .ok (.ishr, 1) := by decide +kernel
theorem dX5_isZeroFrom_25 : decode cX5_isZeroFrom 25 = .ok (.invokevirtual 93, 3) := by decide +kernel
theorem dX5_isZeroFrom_28 : decode cX5_isZeroFrom 28 = .ok (.lconst 0, 1) := by decide +kernel
theorem dX5_isZeroFrom_29 : decode cX5_isZeroFrom 29 = .ok (.lcmp, 1) := by decide +kernel
theorem dX5_isZeroFrom_30 : decode cX5_isZeroFrom 30 = .ok (.ifCond .eq 5, 3) := by decide +kernel
theorem dX5_isZeroFrom_33 : decode cX5_isZeroFrom 33 = .ok (.iconst 0, 1) := by decide +kernel
theorem dX5_isZeroFrom_34 : decode cX5_isZeroFrom 34 = .ok (.ireturn, 1) := by decide +kernel
theorem dX5_isZeroFrom_35 : decode cX5_isZeroFrom 35 = .ok (.iinc 3 8, 3) := by decide +kernel
theorem dX5_isZeroFrom_38 : decode cX5_isZeroFrom 38 = .ok (.goto (-32), 3) := by decide +kernel
theorem dX5_isZeroFrom_41 : decode cX5_isZeroFrom 41 = .ok (.aload_n 0, 1) := by decide +kernel
theorem dX5_isZeroFrom_42 : decode cX5_isZeroFrom 42 = .ok (.iload_n 1, 1) := by decide +kernel
theorem dX5_isZeroFrom_43 : decode cX5_isZeroFrom 43 = .ok (.iload_n 3, 1) := by decide +kernel
theorem dX5_isZeroFrom_44 : decode cX5_isZeroFrom 44 = .ok (.invokevirtual 110, 3) := by decide +kernel
theorem dX5_isZeroFrom_47 : decode cX5_isZeroFrom 47 = .ok (.ifCond .eq 5, 3) := by decide +kernel
theorem dX5_isZeroFrom_50 : decode cX5_isZeroFrom 50 = .ok (.iconst 0, 1) := by decide +kernel
theorem dX5_isZeroFrom_51 : decode cX5_isZeroFrom 51 = .ok (.ireturn, 1) := by decide +kernel
theorem dX5_isZeroFrom_52 : decode cX5_isZeroFrom 52 = .ok (.iinc 3 1, 3) := by decide +kernel
theorem dX5_isZeroFrom_55 : decode cX5_isZeroFrom 55 = .ok (.goto (-49), 3) := by decide +kernel
theorem dX5_isZeroFrom_58 : decode cX5_isZeroFrom 58 = .ok (.iconst 1, 1) := by decide +kernel
theorem dX5_isZeroFrom_59 : decode cX5_isZeroFrom 59 = .ok (.ireturn, 1) := by decide +kernel
def L_X5_isZeroFrom_6 (b0 fu : Nat)  : Nat → Nat → Int32 → Int32 → tM → Option ((Int32) × tM)
  | 0, _, _, _, _ => none
  | n + 1, x0, x1, x3, σ => ltb (L_X5_isZeroFrom_6 b0 fu  n) (fun rc6 => if (256) ≤ (x3) then some (1, σ) else if ((x3) &&& (7)) = (0) then ckO b0 (σ) (x0) 5 (cll (m_X5_word b0 fu (x0) (x1) ((x3) >>> (((3 : Int32)) &&& 31)) (σ)) (fun v13 ρ14 => if (lg_cmp (v13) (0)) = (0) then ltb ((x3) + Int32.ofInt 8) (fun y17 => rc6 (x0) (x1) (y17) (ρ14)) else some (0, ρ14))) else ckO b0 (σ) (x0) 5 (cll (m_X5_octet b0 fu (x0) (x1) (x3) (σ)) (fun v6 ρ7 => if (v6) = (0) then ltb ((x3) + Int32.ofInt 1) (fun y10 => rc6 (x0) (x1) (y10) (ρ7)) else some (0, ρ7))))
def m_X5_isZeroFrom (b0 fu : Nat) (a0 : Nat) (p0 : Int32) (p1 : Int32) (σ : tM) : Option ((Int32) × tM) := grw σ (ltb (((if (p1) < ((0 : Int32)) then (0) else (p1) : Int32) : Int32)) (fun y1 => L_X5_isZeroFrom_6 b0 fu  (fu) (a0) (p0) (y1) (σ)))
set_option maxRecDepth 100000 in
set_option maxHeartbeats 1000000 in
theorem l_X5_isZeroFrom_6 {p : Program} {l : Launch} {e : Env} {s : State} {m : MethodId} {args : Array Value} {below : List Frame} {meth : Method} {c : Code} {D : va_G} {aC : Nat → ClassId} {b0 fu : Nat} {σ0 τ : tM} {v : Int32}  (C : tCx p s m args meth c yX5_isZeroFrom.cls cX5_isZeroFrom 4 (some .boolean) D aC b0 σ0) (htab : ∀ x ∈ c.exceptionTable.toList, False) (hin : meth.name = yX5_isZeroFrom.name)  : ∀ (n : Nat) (x0 : Nat) (x1 : Int32) (x3 : Int32) (σ : tM), L_X5_isZeroFrom_6 b0 fu  n x0 x1 x3 σ = some (v, τ) → tX p l e s m args below meth c 4 1 22 D aC b0 σ0 (.inl (some (.int v))) τ 6 [(0, .ref (x0)), (1, .int (x1)), (3, .int (x3))] [] σ := by
  intro n
  induction n with
  | zero => intro x0 x1 x3 σ hm; unfold L_X5_isZeroFrom_6 at hm; cases hm
  | succ n ih =>
    intro x0 x1 x3 σ hm
    unfold L_X5_isZeroFrom_6 at hm
    obtain ⟨rc6, hrc⟩ : ∃ z, z = L_X5_isZeroFrom_6 b0 fu  n := ⟨_, rfl⟩
    replace hm := ltb_e hm hrc
    rw [← hrc] at ih
    have hrc6 := ih
    clear ih hrc
    refine zx_iload_n C dX5_isZeroFrom_6 2 rfl ?_
    refine zx_sipush (v := 256) C dX5_isZeroFrom_7 (by decide) ?_
    refine zx_icmp_ge C 58 dX5_isZeroFrom_10 (by decide) (fun c2 => ?_) (fun c2 => ?_)
    · replace hm := ip_e hm c2
      refine zx_iconst (v := 1) C dX5_isZeroFrom_58 (by decide) ?_
      obtain ⟨rfl, rfl⟩ := ret_e hm
      exact zx_zret C rfl (by decide) rfl rfl dX5_isZeroFrom_59
    · replace hm := in_e hm c2
      refine zx_iload_n C dX5_isZeroFrom_13 2 rfl ?_
      refine zx_bipush (v := 7) C dX5_isZeroFrom_14 (by decide) ?_
      refine zx_iand C dX5_isZeroFrom_16 ?_
      refine zx_if_ne C 41 dX5_isZeroFrom_17 (by decide) (fun c3 => ?_) (fun c3 => ?_)
      · replace hm := in_e hm c3
        refine zx_aload_n C dX5_isZeroFrom_41 0 rfl ?_
        refine zx_iload_n C dX5_isZeroFrom_42 1 rfl ?_
        refine zx_iload_n C dX5_isZeroFrom_43 2 rfl ?_
        obtain ⟨k4, i5, hm⟩ := ckO_e hm
        obtain ⟨v6, ρ7, h8, hm⟩ := cll_e hm
        refine zx_callV (σ := σ) C [.int (x1), .int (x3)] tC_5 k4 i5 Y_X5_octet W_5_41 W_4_121 W_4_122 (c_X5_octet h8) (by decide) (by decide) rfl (Nat.le_of_ble_eq_true rfl) dX5_isZeroFrom_44 rfl ?_
        refine zx_if_eq C 52 dX5_isZeroFrom_47 (by decide) (fun c9 => ?_) (fun c9 => ?_)
        · replace hm := ip_e hm c9
          obtain ⟨y10, hy10⟩ : ∃ z : Int32, z = (x3) + Int32.ofInt 1 := ⟨_, rfl⟩
          replace hm := ltb_e hm hy10
          refine zx_iinc C [(3, .int (y10)), (0, .ref (x0)), (1, .int (x1))] dX5_isZeroFrom_52 2 rfl hy10.symm (by decide) rfl ?_
          refine zx_goto C 6 dX5_isZeroFrom_55 (by decide) ?_
          exact zx_lv [1, 2, 0] [(0, .ref (x0)), (1, .int (x1)), (3, .int (y10))] rfl (hrc6 _ _ _ _ hm)
        · replace hm := in_e hm c9
          refine zx_iconst (v := 0) C dX5_isZeroFrom_50 (by decide) ?_
          obtain ⟨rfl, rfl⟩ := ret_e hm
          exact zx_zret C rfl (by decide) rfl rfl dX5_isZeroFrom_51
      · replace hm := ip_e hm c3
        refine zx_aload_n C dX5_isZeroFrom_20 0 rfl ?_
        refine zx_iload_n C dX5_isZeroFrom_21 1 rfl ?_
        refine zx_iload_n C dX5_isZeroFrom_22 2 rfl ?_
        refine zx_iconst (v := 3) C dX5_isZeroFrom_23 (by decide) ?_
        refine zx_ishr C dX5_isZeroFrom_24 ?_
        obtain ⟨k11, i12, hm⟩ := ckO_e hm
        obtain ⟨v13, ρ14, h15, hm⟩ := cll_e hm
        refine zx_callV (σ := σ) C [.int (x1), .int ((x3) >>> (((3 : Int32)) &&& 31))] tC_5 k11 i12 Y_X5_word W_2_140 W_2_141 W_2_142 (c_X5_word h15) (by decide) (by decide) rfl (Nat.le_of_ble_eq_true rfl) dX5_isZeroFrom_25 rfl ?_
        refine zx_lconst (v := 0) C dX5_isZeroFrom_28 (by decide) ?_
        refine zx_lcmp C dX5_isZeroFrom_29 ?_
        refine zx_if_eq C 35 dX5_isZeroFrom_30 (by decide) (fun c16 => ?_) (fun c16 => ?_)
        · replace hm := ip_e hm c16
          obtain ⟨y17, hy17⟩ : ∃ z : Int32, z = (x3) + Int32.ofInt 8 := ⟨_, rfl⟩
          replace hm := ltb_e hm hy17
          refine zx_iinc C [(3, .int (y17)), (0, .ref (x0)), (1, .int (x1))] dX5_isZeroFrom_35 2 rfl hy17.symm (by decide) rfl ?_
          refine zx_goto C 6 dX5_isZeroFrom_38 (by decide) ?_
          exact zx_lv [1, 2, 0] [(0, .ref (x0)), (1, .int (x1)), (3, .int (y17))] rfl (hrc6 _ _ _ _ hm)
        · replace hm := in_e hm c16
          refine zx_iconst (v := 0) C dX5_isZeroFrom_33 (by decide) ?_
          obtain ⟨rfl, rfl⟩ := ret_e hm
          exact zx_zret C rfl (by decide) rfl rfl dX5_isZeroFrom_34
set_option maxRecDepth 100000 in
set_option maxHeartbeats 1000000 in
theorem c_X5_isZeroFrom {l : Launch} {D : va_G} {aC : Nat → ClassId} {b0 fu : Nat} {a0 : Nat} {p0 : Int32} {p1 : Int32} {σ τ : tM} {v : Int32} (hm : m_X5_isZeroFrom b0 fu a0 p0 p1 σ = some (v, τ)) : tMt l D aC b0 yX5_isZeroFrom (Cond.code yX5_isZeroFrom cX5_isZeroFrom 4 (some .boolean)) 1 22 [.ref (a0), .int (p0), .int (p1)] σ (.inl (some (.int v))) τ := by
  unfold m_X5_isZeroFrom at hm
  obtain ⟨hg, hm⟩ := grw_e hm
  refine tMt_of (n := 0) rfl (Nat.le_of_ble_eq_true rfl) hg ?_
  intro p e s m below meth c C htab hin
  refine zx_lv [0, 1, 2] [(0, .ref (a0)), (1, .int (p0)), (2, .int (p1))] rfl ?_
  refine zx_iload_n C dX5_isZeroFrom_0 2 rfl ?_
  refine zx_iconst (v := 0) C dX5_isZeroFrom_1 (by decide) ?_
  refine zx_max C W_2_128 W_2_109 W_1_10 W_2_110 (by decide) (by decide) (Nat.le_of_ble_eq_true rfl) dX5_isZeroFrom_2 ?_
  refine zx_topi (fun y1 hy1 => ?_)
  replace hm := ltb_e hm hy1
  refine zx_istore_n C [(3, .int (y1)), (0, .ref (a0)), (1, .int (p0)), (2, .int (p1))] dX5_isZeroFrom_5 rfl (by decide) rfl ?_
  exact zx_lv [1, 2, 0] [(0, .ref (a0)), (1, .int (p0)), (3, .int (y1))] rfl (l_X5_isZeroFrom_6 C htab hin  _ _ _ _ _ hm)
abbrev cX5_touch : ByteArray := prog_7_method_20_code
def yX5_touch : MethodName := ⟨"SyncTree$Space", "touch", "(I)V"⟩
theorem Y_X5_touch : tY yX5_touch cX5_touch 2 none 1 := ⟨W_2_159, W_1_3, ⟨by decide +kernel, by decide +kernel⟩, by decide +kernel⟩
theorem dX5_touch_0 : decode cX5_touch 0 = .ok (.iload_n 1, 1) := by decide +kernel
theorem dX5_touch_1 : decode cX5_touch 1 = .ok (.ifCond .le 37, 3) := by decide +kernel
theorem dX5_touch_4 : decode cX5_touch 4 = .ok (.iload_n 1, 1) := by decide +kernel
theorem dX5_touch_5 : decode cX5_touch 5 = .ok (.aload_n 0, 1) := by decide +kernel
theorem dX5_touch_6 : decode cX5_touch 6 = .ok (.getfield 48, 3) := by decide +kernel
theorem dX5_touch_9 : decode cX5_touch 9 = .ok (.if_icmp .ge 29, 3) := by decide +kernel
theorem dX5_touch_12 : decode cX5_touch 12 = .ok (.aload_n 0, 1) := by decide +kernel
theorem dX5_touch_13 : decode cX5_touch 13 = .ok (.getfield 27, 3) := by decide +kernel
theorem dX5_touch_16 : decode cX5_touch 16 = .ok (.iload_n 1, 1) := by decide +kernel
theorem dX5_touch_17 : decode cX5_touch 17 = .ok (.baload, 1) := by decide +kernel
theorem dX5_touch_18 : decode cX5_touch 18 = .ok (.ifCond .ne 20, 3) := by decide +kernel
theorem dX5_touch_21 : decode cX5_touch 21 = .ok (.aload_n 0, 1) := by decide +kernel
theorem dX5_touch_22 : decode cX5_touch 22 = .ok (.getfield 27, 3) := by decide +kernel
theorem dX5_touch_25 : decode cX5_touch 25 = .ok (.iload_n 1, 1) := by decide +kernel
theorem dX5_touch_26 : decode cX5_touch 26 = .ok (.iconst 1, 1) := by decide +kernel
theorem dX5_touch_27 : decode cX5_touch 27 = .ok (.bastore, 1) := by decide +kernel
theorem dX5_touch_28 : decode cX5_touch 28 = .ok (.aload_n 0, 1) := by decide +kernel
theorem dX5_touch_29 : decode cX5_touch 29 = .ok (.dup, 1) := by decide +kernel
theorem dX5_touch_30 : decode cX5_touch 30 = .ok (.getfield 78, 3) := by decide +kernel
theorem dX5_touch_33 : decode cX5_touch 33 = .ok (.iconst 1, 1) := by decide +kernel
theorem dX5_touch_34 : decode cX5_touch 34 = .ok (.iadd, 1) := by decide +kernel
theorem dX5_touch_35 : decode cX5_touch 35 = .ok (.putfield 78, 3) := by decide +kernel
theorem dX5_touch_38 : decode cX5_touch 38 = .ok (.return_, 1) := by decide +kernel
def J_X5_touch_38 (b0 fu : Nat)   (σ : tM) : Option ((Unit) × tM) := some ((), σ)
def m_X5_touch (b0 fu : Nat) (a0 : Nat) (p0 : Int32) (σ : tM) : Option ((Unit) × tM) := grw σ (if (p0) ≤ (0) then J_X5_touch_38 b0 fu    (σ) else ckO b0 (σ) (a0) 5 (if (tI (σ) (a0) 7) ≤ (p0) then J_X5_touch_38 b0 fu    (σ) else osm (tA (σ) (a0) 4) (fun a5 => ckR b0 (σ) (a5) 1 (fun n9 => ckI (p0) (n9) (if (tI (σ) (a5) ((p0).toNatClampNeg)) = (0) then osm (tA (σ) (a0) 4) (fun a12 => ckR b0 (σ) (a12) 1 (fun n16 => ckI (p0) (n16) (J_X5_touch_38 b0 fu    (sI (sI (σ) (a12) ((p0).toNatClampNeg) (vp_nar .byte ((1 : Int32)))) (a0) 11 ((tI (sI (σ) (a12) ((p0).toNatClampNeg) (vp_nar .byte ((1 : Int32)))) (a0) 11) + (1)))))) else J_X5_touch_38 b0 fu    (σ))))))
set_option maxRecDepth 100000 in
set_option maxHeartbeats 1000000 in
theorem j_X5_touch_38 {p : Program} {l : Launch} {e : Env} {s : State} {m : MethodId} {args : Array Value} {below : List Frame} {meth : Method} {c : Code} {D : va_G} {aC : Nat → ClassId} {b0 fu : Nat} {σ0 τ : tM} {v : Unit}  (C : tCx p s m args meth c yX5_touch.cls cX5_touch 2 none D aC b0 σ0) (htab : ∀ x ∈ c.exceptionTable.toList, False) (hin : meth.name = yX5_touch.name)   {σ : tM} (hm : J_X5_touch_38 b0 fu   σ = some (v, τ)) : tX p l e s m args below meth c 2 0 0 D aC b0 σ0 (.inl none) τ 38 [] [] σ := by
  unfold J_X5_touch_38 at hm
  obtain ⟨rfl, rfl⟩ := ret_e hm
  exact zx_vret C rfl rfl rfl dX5_touch_38
set_option maxRecDepth 100000 in
set_option maxHeartbeats 1000000 in
theorem c_X5_touch {l : Launch} {D : va_G} {aC : Nat → ClassId} {b0 fu : Nat} {a0 : Nat} {p0 : Int32} {σ τ : tM} {v : Unit} (hm : m_X5_touch b0 fu a0 p0 σ = some (v, τ)) : tMt l D aC b0 yX5_touch (Cond.code yX5_touch cX5_touch 2 none) 0 0 [.ref (a0), .int (p0)] σ (.inl none) τ := by
  unfold m_X5_touch at hm
  obtain ⟨hg, hm⟩ := grw_e hm
  refine tMt_of (n := 0) rfl (Nat.le_of_ble_eq_true rfl) hg ?_
  intro p e s m below meth c C htab hin
  refine zx_lv [0, 1] [(0, .ref (a0)), (1, .int (p0))] rfl ?_
  refine zx_iload_n C dX5_touch_0 1 rfl ?_
  refine zx_if_le C 38 dX5_touch_1 (by decide) (fun c1 => ?_) (fun c1 => ?_)
  · replace hm := ip_e hm c1
    exact zx_lv [] [] rfl (j_X5_touch_38 C htab hin    hm)
  · replace hm := in_e hm c1
    refine zx_iload_n C dX5_touch_4 1 rfl ?_
    refine zx_aload_n C dX5_touch_5 0 rfl ?_
    obtain ⟨k2, i3, hm⟩ := ckO_e hm
    refine zx_get (j := 7) C tC_5 k2 i3 ⟨by decide, Or.inl W_1_104⟩ dX5_touch_6 (.int (tI (σ) (a0) 7)) rfl ?_
    refine zx_icmp_ge C 38 dX5_touch_9 (by decide) (fun c4 => ?_) (fun c4 => ?_)
    · replace hm := ip_e hm c4
      exact zx_lv [] [] rfl (j_X5_touch_38 C htab hin    hm)
    · replace hm := in_e hm c4
      refine zx_aload_n C dX5_touch_12 0 rfl ?_
      obtain ⟨a5, h6, hm⟩ := osm_e hm
      refine zx_get (j := 4) C tC_5 k2 i3 ⟨by decide, Or.inl W_1_100⟩ dX5_touch_13 (.ref a5) (rf_s h6) ?_
      refine zx_iload_n C dX5_touch_16 1 rfl ?_
      obtain ⟨n9, k7, i8, hm⟩ := ckR_e hm
      obtain ⟨h10, hm⟩ := ckI_e hm
      refine zx_bald C k7 i8 h10 dX5_touch_17 ?_
      refine zx_if_ne C 38 dX5_touch_18 (by decide) (fun c11 => ?_) (fun c11 => ?_)
      · replace hm := in_e hm c11
        exact zx_lv [] [] rfl (j_X5_touch_38 C htab hin    hm)
      · replace hm := ip_e hm c11
        refine zx_aload_n C dX5_touch_21 0 rfl ?_
        obtain ⟨a12, h13, hm⟩ := osm_e hm
        refine zx_get (j := 4) C tC_5 k2 i3 ⟨by decide, Or.inl W_1_100⟩ dX5_touch_22 (.ref a12) (rf_s h13) ?_
        refine zx_iload_n C dX5_touch_25 1 rfl ?_
        refine zx_iconst (v := 1) C dX5_touch_26 (by decide) ?_
        obtain ⟨n16, k14, i15, hm⟩ := ckR_e hm
        obtain ⟨h17, hm⟩ := ckI_e hm
        refine zx_bast C k14 i15 h17 dX5_touch_27 ?_
        refine zx_aload_n C dX5_touch_28 0 rfl ?_
        refine zx_dup C dX5_touch_29 rfl ?_
        refine zx_get (j := 11) C tC_5 k2 i3 ⟨by decide, Or.inl W_1_111⟩ dX5_touch_30 (.int (tI (sI (σ) (a12) ((p0).toNatClampNeg) (vp_nar .byte ((1 : Int32)))) (a0) 11)) rfl ?_
        refine zx_iconst (v := 1) C dX5_touch_33 (by decide) ?_
        refine zx_iadd C dX5_touch_34 ?_
        refine zx_put (j := 11) (ρ := sI (sI (σ) (a12) ((p0).toNatClampNeg) (vp_nar .byte ((1 : Int32)))) (a0) 11 ((tI (sI (σ) (a12) ((p0).toNatClampNeg) (vp_nar .byte ((1 : Int32)))) (a0) 11) + (1))) C tC_5 k2 i3 ⟨by decide, Or.inl W_1_111⟩ rfl rfl rfl (sI_ok (fun _ => rfl)) dX5_touch_35 ?_
        exact zx_lv [] [] rfl (j_X5_touch_38 C htab hin    hm)
abbrev cX5_soil : ByteArray := prog_7_method_21_code
def yX5_soil : MethodName := ⟨"SyncTree$Space", "soil", "(I)V"⟩
theorem Y_X5_soil : tY yX5_soil cX5_soil 2 none 1 := ⟨W_5_83, W_1_3, ⟨by decide +kernel, by decide +kernel⟩, by decide +kernel⟩
theorem dX5_soil_0 : decode cX5_soil 0 = .ok (.iload_n 1, 1) := by decide +kernel
theorem dX5_soil_1 : decode cX5_soil 1 = .ok (.ifCond .le 37, 3) := by decide +kernel
theorem dX5_soil_4 : decode cX5_soil 4 = .ok (.iload_n 1, 1) := by decide +kernel
theorem dX5_soil_5 : decode cX5_soil 5 = .ok (.aload_n 0, 1) := by decide +kernel
theorem dX5_soil_6 : decode cX5_soil 6 = .ok (.getfield 48, 3) := by decide +kernel
theorem dX5_soil_9 : decode cX5_soil 9 = .ok (.if_icmp .ge 29, 3) := by decide +kernel
theorem dX5_soil_12 : decode cX5_soil 12 = .ok (.aload_n 0, 1) := by decide +kernel
theorem dX5_soil_13 : decode cX5_soil 13 = .ok (.getfield 33, 3) := by decide +kernel
theorem dX5_soil_16 : decode cX5_soil 16 = .ok (.iload_n 1, 1) := by decide +kernel
theorem dX5_soil_17 : decode cX5_soil 17 = .ok (.baload, 1) := by decide +kernel
theorem dX5_soil_18 : decode cX5_soil 18 = .ok (.ifCond .ne 20, 3) := by decide +kernel
theorem dX5_soil_21 : decode cX5_soil 21 = .ok (.aload_n 0, 1) := by decide +kernel
theorem dX5_soil_22 : decode cX5_soil 22 = .ok (.getfield 33, 3) := by decide +kernel
theorem dX5_soil_25 : decode cX5_soil 25 = .ok (.iload_n 1, 1) := by decide +kernel
theorem dX5_soil_26 : decode cX5_soil 26 = .ok (.iconst 1, 1) := by decide +kernel
theorem dX5_soil_27 : decode cX5_soil 27 = .ok (.bastore, 1) := by decide +kernel
theorem dX5_soil_28 : decode cX5_soil 28 = .ok (.aload_n 0, 1) := by decide +kernel
theorem dX5_soil_29 : decode cX5_soil 29 = .ok (.dup, 1) := by decide +kernel
theorem dX5_soil_30 : decode cX5_soil 30 = .ok (.getfield 65, 3) := by decide +kernel
theorem dX5_soil_33 : decode cX5_soil 33 = .ok (.iconst 1, 1) := by decide +kernel
theorem dX5_soil_34 : decode cX5_soil 34 = .ok (.iadd, 1) := by decide +kernel
theorem dX5_soil_35 : decode cX5_soil 35 = .ok (.putfield 65, 3) := by decide +kernel
theorem dX5_soil_38 : decode cX5_soil 38 = .ok (.return_, 1) := by decide +kernel
def J_X5_soil_38 (b0 fu : Nat)   (σ : tM) : Option ((Unit) × tM) := some ((), σ)
def m_X5_soil (b0 fu : Nat) (a0 : Nat) (p0 : Int32) (σ : tM) : Option ((Unit) × tM) := grw σ (if (p0) ≤ (0) then J_X5_soil_38 b0 fu    (σ) else ckO b0 (σ) (a0) 5 (if (tI (σ) (a0) 7) ≤ (p0) then J_X5_soil_38 b0 fu    (σ) else osm (tA (σ) (a0) 6) (fun a5 => ckR b0 (σ) (a5) 1 (fun n9 => ckI (p0) (n9) (if (tI (σ) (a5) ((p0).toNatClampNeg)) = (0) then osm (tA (σ) (a0) 6) (fun a12 => ckR b0 (σ) (a12) 1 (fun n16 => ckI (p0) (n16) (J_X5_soil_38 b0 fu    (sI (sI (σ) (a12) ((p0).toNatClampNeg) (vp_nar .byte ((1 : Int32)))) (a0) 13 ((tI (sI (σ) (a12) ((p0).toNatClampNeg) (vp_nar .byte ((1 : Int32)))) (a0) 13) + (1)))))) else J_X5_soil_38 b0 fu    (σ))))))
set_option maxRecDepth 100000 in
set_option maxHeartbeats 1000000 in
theorem j_X5_soil_38 {p : Program} {l : Launch} {e : Env} {s : State} {m : MethodId} {args : Array Value} {below : List Frame} {meth : Method} {c : Code} {D : va_G} {aC : Nat → ClassId} {b0 fu : Nat} {σ0 τ : tM} {v : Unit}  (C : tCx p s m args meth c yX5_soil.cls cX5_soil 2 none D aC b0 σ0) (htab : ∀ x ∈ c.exceptionTable.toList, False) (hin : meth.name = yX5_soil.name)   {σ : tM} (hm : J_X5_soil_38 b0 fu   σ = some (v, τ)) : tX p l e s m args below meth c 2 0 0 D aC b0 σ0 (.inl none) τ 38 [] [] σ := by
  unfold J_X5_soil_38 at hm
  obtain ⟨rfl, rfl⟩ := ret_e hm
  exact zx_vret C rfl rfl rfl dX5_soil_38
set_option maxRecDepth 100000 in
set_option maxHeartbeats 1000000 in
theorem c_X5_soil {l : Launch} {D : va_G} {aC : Nat → ClassId} {b0 fu : Nat} {a0 : Nat} {p0 : Int32} {σ τ : tM} {v : Unit} (hm : m_X5_soil b0 fu a0 p0 σ = some (v, τ)) : tMt l D aC b0 yX5_soil (Cond.code yX5_soil cX5_soil 2 none) 0 0 [.ref (a0), .int (p0)] σ (.inl none) τ := by
  unfold m_X5_soil at hm
  obtain ⟨hg, hm⟩ := grw_e hm
  refine tMt_of (n := 0) rfl (Nat.le_of_ble_eq_true rfl) hg ?_
  intro p e s m below meth c C htab hin
  refine zx_lv [0, 1] [(0, .ref (a0)), (1, .int (p0))] rfl ?_
  refine zx_iload_n C dX5_soil_0 1 rfl ?_
  refine zx_if_le C 38 dX5_soil_1 (by decide) (fun c1 => ?_) (fun c1 => ?_)
  · replace hm := ip_e hm c1
    exact zx_lv [] [] rfl (j_X5_soil_38 C htab hin    hm)
  · replace hm := in_e hm c1
    refine zx_iload_n C dX5_soil_4 1 rfl ?_
    refine zx_aload_n C dX5_soil_5 0 rfl ?_
    obtain ⟨k2, i3, hm⟩ := ckO_e hm
    refine zx_get (j := 7) C tC_5 k2 i3 ⟨by decide, Or.inl W_1_104⟩ dX5_soil_6 (.int (tI (σ) (a0) 7)) rfl ?_
    refine zx_icmp_ge C 38 dX5_soil_9 (by decide) (fun c4 => ?_) (fun c4 => ?_)
    · replace hm := ip_e hm c4
      exact zx_lv [] [] rfl (j_X5_soil_38 C htab hin    hm)
    · replace hm := in_e hm c4
      refine zx_aload_n C dX5_soil_12 0 rfl ?_
      obtain ⟨a5, h6, hm⟩ := osm_e hm
      refine zx_get (j := 6) C tC_5 k2 i3 ⟨by decide, Or.inl W_1_102⟩ dX5_soil_13 (.ref a5) (rf_s h6) ?_
      refine zx_iload_n C dX5_soil_16 1 rfl ?_
      obtain ⟨n9, k7, i8, hm⟩ := ckR_e hm
      obtain ⟨h10, hm⟩ := ckI_e hm
      refine zx_bald C k7 i8 h10 dX5_soil_17 ?_
      refine zx_if_ne C 38 dX5_soil_18 (by decide) (fun c11 => ?_) (fun c11 => ?_)
      · replace hm := in_e hm c11
        exact zx_lv [] [] rfl (j_X5_soil_38 C htab hin    hm)
      · replace hm := ip_e hm c11
        refine zx_aload_n C dX5_soil_21 0 rfl ?_
        obtain ⟨a12, h13, hm⟩ := osm_e hm
        refine zx_get (j := 6) C tC_5 k2 i3 ⟨by decide, Or.inl W_1_102⟩ dX5_soil_22 (.ref a12) (rf_s h13) ?_
        refine zx_iload_n C dX5_soil_25 1 rfl ?_
        refine zx_iconst (v := 1) C dX5_soil_26 (by decide) ?_
        obtain ⟨n16, k14, i15, hm⟩ := ckR_e hm
        obtain ⟨h17, hm⟩ := ckI_e hm
        refine zx_bast C k14 i15 h17 dX5_soil_27 ?_
        refine zx_aload_n C dX5_soil_28 0 rfl ?_
        refine zx_dup C dX5_soil_29 rfl ?_
        refine zx_get (j := 13) C tC_5 k2 i3 ⟨by decide, Or.inl W_1_115⟩ dX5_soil_30 (.int (tI (sI (σ) (a12) ((p0).toNatClampNeg) (vp_nar .byte ((1 : Int32)))) (a0) 13)) rfl ?_
        refine zx_iconst (v := 1) C dX5_soil_33 (by decide) ?_
        refine zx_iadd C dX5_soil_34 ?_
        refine zx_put (j := 13) (ρ := sI (sI (σ) (a12) ((p0).toNatClampNeg) (vp_nar .byte ((1 : Int32)))) (a0) 13 ((tI (sI (σ) (a12) ((p0).toNatClampNeg) (vp_nar .byte ((1 : Int32)))) (a0) 13) + (1))) C tC_5 k2 i3 ⟨by decide, Or.inl W_1_115⟩ rfl rfl rfl (sI_ok (fun _ => rfl)) dX5_soil_35 ?_
        exact zx_lv [] [] rfl (j_X5_soil_38 C htab hin    hm)
abbrev cX5_clean : ByteArray := prog_7_method_22_code
def yX5_clean : MethodName := ⟨"SyncTree$Space", "clean", "(I)V"⟩
theorem Y_X5_clean : tY yX5_clean cX5_clean 2 none 1 := ⟨W_2_122, W_1_3, ⟨by decide +kernel, by decide +kernel⟩, by decide +kernel⟩
theorem dX5_clean_0 : decode cX5_clean 0 = .ok (.iload_n 1, 1) := by decide +kernel
theorem dX5_clean_1 : decode cX5_clean 1 = .ok (.ifCond .le 37, 3) := by decide +kernel
theorem dX5_clean_4 : decode cX5_clean 4 = .ok (.iload_n 1, 1) := by decide +kernel
theorem dX5_clean_5 : decode cX5_clean 5 = .ok (.aload_n 0, 1) := by decide +kernel
theorem dX5_clean_6 : decode cX5_clean 6 = .ok (.getfield 48, 3) := by decide +kernel
theorem dX5_clean_9 : decode cX5_clean 9 = .ok (.if_icmp .ge 29, 3) := by decide +kernel
theorem dX5_clean_12 : decode cX5_clean 12 = .ok (.aload_n 0, 1) := by decide +kernel
theorem dX5_clean_13 : decode cX5_clean 13 = .ok (.getfield 33, 3) := by decide +kernel
theorem dX5_clean_16 : decode cX5_clean 16 = .ok (.iload_n 1, 1) := by decide +kernel
theorem dX5_clean_17 : decode cX5_clean 17 = .ok (.baload, 1) := by decide +kernel
theorem dX5_clean_18 : decode cX5_clean 18 = .ok (.ifCond .eq 20, 3) := by decide +kernel
theorem dX5_clean_21 : decode cX5_clean 21 = .ok (.aload_n 0, 1) := by decide +kernel
theorem dX5_clean_22 : decode cX5_clean 22 = .ok (.getfield 33, 3) := by decide +kernel
theorem dX5_clean_25 : decode cX5_clean 25 = .ok (.iload_n 1, 1) := by decide +kernel
theorem dX5_clean_26 : decode cX5_clean 26 = .ok (.iconst 0, 1) := by decide +kernel
theorem dX5_clean_27 : decode cX5_clean 27 = .ok (.bastore, 1) := by decide +kernel
theorem dX5_clean_28 : decode cX5_clean 28 = .ok (.aload_n 0, 1) := by decide +kernel
theorem dX5_clean_29 : decode cX5_clean 29 = .ok (.dup, 1) := by decide +kernel
theorem dX5_clean_30 : decode cX5_clean 30 = .ok (.getfield 65, 3) := by decide +kernel
theorem dX5_clean_33 : decode cX5_clean 33 = .ok (.iconst 1, 1) := by decide +kernel
theorem dX5_clean_34 : decode cX5_clean 34 = .ok (.isub, 1) := by decide +kernel
theorem dX5_clean_35 : decode cX5_clean 35 = .ok (.putfield 65, 3) := by decide +kernel
theorem dX5_clean_38 : decode cX5_clean 38 = .ok (.return_, 1) := by decide +kernel
def J_X5_clean_38 (b0 fu : Nat)   (σ : tM) : Option ((Unit) × tM) := some ((), σ)
def m_X5_clean (b0 fu : Nat) (a0 : Nat) (p0 : Int32) (σ : tM) : Option ((Unit) × tM) := grw σ (if (p0) ≤ (0) then J_X5_clean_38 b0 fu    (σ) else ckO b0 (σ) (a0) 5 (if (tI (σ) (a0) 7) ≤ (p0) then J_X5_clean_38 b0 fu    (σ) else osm (tA (σ) (a0) 6) (fun a5 => ckR b0 (σ) (a5) 1 (fun n9 => ckI (p0) (n9) (if (tI (σ) (a5) ((p0).toNatClampNeg)) = (0) then J_X5_clean_38 b0 fu    (σ) else osm (tA (σ) (a0) 6) (fun a12 => ckR b0 (σ) (a12) 1 (fun n16 => ckI (p0) (n16) (J_X5_clean_38 b0 fu    (sI (sI (σ) (a12) ((p0).toNatClampNeg) (vp_nar .byte ((0 : Int32)))) (a0) 13 ((tI (sI (σ) (a12) ((p0).toNatClampNeg) (vp_nar .byte ((0 : Int32)))) (a0) 13) - (1)))))))))))
set_option maxRecDepth 100000 in
set_option maxHeartbeats 1000000 in
theorem j_X5_clean_38 {p : Program} {l : Launch} {e : Env} {s : State} {m : MethodId} {args : Array Value} {below : List Frame} {meth : Method} {c : Code} {D : va_G} {aC : Nat → ClassId} {b0 fu : Nat} {σ0 τ : tM} {v : Unit}  (C : tCx p s m args meth c yX5_clean.cls cX5_clean 2 none D aC b0 σ0) (htab : ∀ x ∈ c.exceptionTable.toList, False) (hin : meth.name = yX5_clean.name)   {σ : tM} (hm : J_X5_clean_38 b0 fu   σ = some (v, τ)) : tX p l e s m args below meth c 2 0 0 D aC b0 σ0 (.inl none) τ 38 [] [] σ := by
  unfold J_X5_clean_38 at hm
  obtain ⟨rfl, rfl⟩ := ret_e hm
  exact zx_vret C rfl rfl rfl dX5_clean_38
set_option maxRecDepth 100000 in
set_option maxHeartbeats 1000000 in
theorem c_X5_clean {l : Launch} {D : va_G} {aC : Nat → ClassId} {b0 fu : Nat} {a0 : Nat} {p0 : Int32} {σ τ : tM} {v : Unit} (hm : m_X5_clean b0 fu a0 p0 σ = some (v, τ)) : tMt l D aC b0 yX5_clean (Cond.code yX5_clean cX5_clean 2 none) 0 0 [.ref (a0), .int (p0)] σ (.inl none) τ := by
  unfold m_X5_clean at hm
  obtain ⟨hg, hm⟩ := grw_e hm
  refine tMt_of (n := 0) rfl (Nat.le_of_ble_eq_true rfl) hg ?_
  intro p e s m below meth c C htab hin
  refine zx_lv [0, 1] [(0, .ref (a0)), (1, .int (p0))] rfl ?_
  refine zx_iload_n C dX5_clean_0 1 rfl ?_
  refine zx_if_le C 38 dX5_clean_1 (by decide) (fun c1 => ?_) (fun c1 => ?_)
  · replace hm := ip_e hm c1
    exact zx_lv [] [] rfl (j_X5_clean_38 C htab hin    hm)
  · replace hm := in_e hm c1
    refine zx_iload_n C dX5_clean_4 1 rfl ?_
    refine zx_aload_n C dX5_clean_5 0 rfl ?_
    obtain ⟨k2, i3, hm⟩ := ckO_e hm
    refine zx_get (j := 7) C tC_5 k2 i3 ⟨by decide, Or.inl W_1_104⟩ dX5_clean_6 (.int (tI (σ) (a0) 7)) rfl ?_
    refine zx_icmp_ge C 38 dX5_clean_9 (by decide) (fun c4 => ?_) (fun c4 => ?_)
    · replace hm := ip_e hm c4
      exact zx_lv [] [] rfl (j_X5_clean_38 C htab hin    hm)
    · replace hm := in_e hm c4
      refine zx_aload_n C dX5_clean_12 0 rfl ?_
      obtain ⟨a5, h6, hm⟩ := osm_e hm
      refine zx_get (j := 6) C tC_5 k2 i3 ⟨by decide, Or.inl W_1_102⟩ dX5_clean_13 (.ref a5) (rf_s h6) ?_
      refine zx_iload_n C dX5_clean_16 1 rfl ?_
      obtain ⟨n9, k7, i8, hm⟩ := ckR_e hm
      obtain ⟨h10, hm⟩ := ckI_e hm
      refine zx_bald C k7 i8 h10 dX5_clean_17 ?_
      refine zx_if_eq C 38 dX5_clean_18 (by decide) (fun c11 => ?_) (fun c11 => ?_)
      · replace hm := ip_e hm c11
        exact zx_lv [] [] rfl (j_X5_clean_38 C htab hin    hm)
      · replace hm := in_e hm c11
        refine zx_aload_n C dX5_clean_21 0 rfl ?_
        obtain ⟨a12, h13, hm⟩ := osm_e hm
        refine zx_get (j := 6) C tC_5 k2 i3 ⟨by decide, Or.inl W_1_102⟩ dX5_clean_22 (.ref a12) (rf_s h13) ?_
        refine zx_iload_n C dX5_clean_25 1 rfl ?_
        refine zx_iconst (v := 0) C dX5_clean_26 (by decide) ?_
        obtain ⟨n16, k14, i15, hm⟩ := ckR_e hm
        obtain ⟨h17, hm⟩ := ckI_e hm
        refine zx_bast C k14 i15 h17 dX5_clean_27 ?_
        refine zx_aload_n C dX5_clean_28 0 rfl ?_
        refine zx_dup C dX5_clean_29 rfl ?_
        refine zx_get (j := 13) C tC_5 k2 i3 ⟨by decide, Or.inl W_1_115⟩ dX5_clean_30 (.int (tI (sI (σ) (a12) ((p0).toNatClampNeg) (vp_nar .byte ((0 : Int32)))) (a0) 13)) rfl ?_
        refine zx_iconst (v := 1) C dX5_clean_33 (by decide) ?_
        refine zx_isub C dX5_clean_34 ?_
        refine zx_put (j := 13) (ρ := sI (sI (σ) (a12) ((p0).toNatClampNeg) (vp_nar .byte ((0 : Int32)))) (a0) 13 ((tI (sI (σ) (a12) ((p0).toNatClampNeg) (vp_nar .byte ((0 : Int32)))) (a0) 13) - (1))) C tC_5 k2 i3 ⟨by decide, Or.inl W_1_115⟩ rfl rfl rfl (sI_ok (fun _ => rfl)) dX5_clean_35 ?_
        exact zx_lv [] [] rfl (j_X5_clean_38 C htab hin    hm)
abbrev cX5_adopt : ByteArray := prog_7_method_24_code
def yX5_adopt : MethodName := ⟨"SyncTree$Space", "adopt", "(III)V"⟩
theorem Y_X5_adopt : tY yX5_adopt cX5_adopt 4 none 3 := ⟨W_4_210, W_1_3, ⟨by decide +kernel, by decide +kernel⟩, by decide +kernel⟩
theorem dX5_adopt_0 : decode cX5_adopt 0 = .ok (.iload_n 1, 1) := by decide +kernel
theorem dX5_adopt_1 : decode cX5_adopt 1 = .ok (.bipush 34, 2) := by decide +kernel
theorem dX5_adopt_3 : decode cX5_adopt 3 = .ok (.if_icmp .lt 33, 3) := by decide +kernel
theorem dX5_adopt_6 : decode cX5_adopt 6 = .ok (.iload_n 1, 1) := by decide +kernel
theorem dX5_adopt_7 : decode cX5_adopt 7 = .ok (.aload_n 0, 1) := by decide +kernel
theorem dX5_adopt_8 : decode cX5_adopt 8 = .ok (.getfield 48, 3) := by decide +kernel
theorem dX5_adopt_11 : decode cX5_adopt 11 = .ok (.if_icmp .ge 25, 3) := by decide +kernel
theorem dX5_adopt_14 : decode cX5_adopt 14 = .ok (.aload_n 0, 1) := by decide +kernel
theorem dX5_adopt_15 : decode cX5_adopt 15 = .ok (.getfield 16, 3) := by decide +kernel
theorem dX5_adopt_18 : decode cX5_adopt 18 = .ok (.iload_n 1, 1) := by decide +kernel
theorem dX5_adopt_19 : decode cX5_adopt 19 = .ok (.iconst (-1), 1) := by decide +kernel
theorem dX5_adopt_20 : decode cX5_adopt 20 = .ok (.iastore, 1) := by decide +kernel
theorem dX5_adopt_21 : decode cX5_adopt 21 = .ok (.aload_n 0, 1) := by decide +kernel
theorem dX5_adopt_22 : decode cX5_adopt 22 = .ok (.getfield 20, 3) := by decide +kernel
theorem dX5_adopt_25 : decode cX5_adopt 25 = .ok (.iload_n 1, 1) := by decide +kernel
theorem dX5_adopt_26 : decode cX5_adopt 26 = .ok (.iload_n 2, 1) := by decide +kernel
theorem dX5_adopt_27 : decode cX5_adopt 27 = .ok (.iastore, 1) := by decide +kernel
theorem dX5_adopt_28 : decode cX5_adopt 28 = .ok (.aload_n 0, 1) := by decide +kernel
theorem dX5_adopt_29 : decode cX5_adopt 29 = .ok (.getfield 23, 3) := by decide +kernel
theorem dX5_adopt_32 : decode cX5_adopt 32 = .ok (.iload_n 1, 1) := by decide +kernel
theorem dX5_adopt_33 : decode cX5_adopt 33 = .ok (.iload_n 3, 1) := by decide +kernel
theorem dX5_adopt_34 : decode cX5_adopt 34 = .ok (.i2b, 1) := by decide +kernel
theorem dX5_adopt_35 : decode cX5_adopt 35 = .ok (.bastore, 1) := by decide +kernel
theorem dX5_adopt_36 : decode cX5_adopt 36 = .ok (.return_, 1) := by decide +kernel
def J_X5_adopt_36 (b0 fu : Nat)   (σ : tM) : Option ((Unit) × tM) := some ((), σ)
def m_X5_adopt (b0 fu : Nat) (a0 : Nat) (p0 : Int32) (p1 : Int32) (p2 : Int32) (σ : tM) : Option ((Unit) × tM) := grw σ (if (p0) < (34) then J_X5_adopt_36 b0 fu    (σ) else ckO b0 (σ) (a0) 5 (if (tI (σ) (a0) 7) ≤ (p0) then J_X5_adopt_36 b0 fu    (σ) else osm (tA (σ) (a0) 1) (fun a5 => ckR b0 (σ) (a5) 0 (fun n9 => ckI (p0) (n9) (osm (tA (sI (σ) (a5) ((p0).toNatClampNeg) ((-1))) (a0) 2) (fun a11 => ckR b0 (sI (σ) (a5) ((p0).toNatClampNeg) ((-1))) (a11) 0 (fun n15 => ckI (p0) (n15) (osm (tA (sI (sI (σ) (a5) ((p0).toNatClampNeg) ((-1))) (a11) ((p0).toNatClampNeg) (p1)) (a0) 3) (fun a17 => ckR b0 (sI (sI (σ) (a5) ((p0).toNatClampNeg) ((-1))) (a11) ((p0).toNatClampNeg) (p1)) (a17) 1 (fun n21 => ckI (p0) (n21) (J_X5_adopt_36 b0 fu    (sI (sI (sI (σ) (a5) ((p0).toNatClampNeg) ((-1))) (a11) ((p0).toNatClampNeg) (p1)) (a17) ((p0).toNatClampNeg) (vp_nar .byte ((p2).toInt8.toInt32))))))))))))))
set_option maxRecDepth 100000 in
set_option maxHeartbeats 1000000 in
theorem j_X5_adopt_36 {p : Program} {l : Launch} {e : Env} {s : State} {m : MethodId} {args : Array Value} {below : List Frame} {meth : Method} {c : Code} {D : va_G} {aC : Nat → ClassId} {b0 fu : Nat} {σ0 τ : tM} {v : Unit}  (C : tCx p s m args meth c yX5_adopt.cls cX5_adopt 4 none D aC b0 σ0) (htab : ∀ x ∈ c.exceptionTable.toList, False) (hin : meth.name = yX5_adopt.name)   {σ : tM} (hm : J_X5_adopt_36 b0 fu   σ = some (v, τ)) : tX p l e s m args below meth c 4 0 0 D aC b0 σ0 (.inl none) τ 36 [] [] σ := by
  unfold J_X5_adopt_36 at hm
  obtain ⟨rfl, rfl⟩ := ret_e hm
  exact zx_vret C rfl rfl rfl dX5_adopt_36
set_option maxRecDepth 100000 in
set_option maxHeartbeats 1000000 in
theorem c_X5_adopt {l : Launch} {D : va_G} {aC : Nat → ClassId} {b0 fu : Nat} {a0 : Nat} {p0 : Int32} {p1 : Int32} {p2 : Int32} {σ τ : tM} {v : Unit} (hm : m_X5_adopt b0 fu a0 p0 p1 p2 σ = some (v, τ)) : tMt l D aC b0 yX5_adopt (Cond.code yX5_adopt cX5_adopt 4 none) 0 0 [.ref (a0), .int (p0), .int (p1), .int (p2)] σ (.inl none) τ := by
  unfold m_X5_adopt at hm
  obtain ⟨hg, hm⟩ := grw_e hm
  refine tMt_of (n := 0) rfl (Nat.le_of_ble_eq_true rfl) hg ?_
  intro p e s m below meth c C htab hin
  refine zx_lv [0, 1, 2, 3] [(0, .ref (a0)), (1, .int (p0)), (2, .int (p1)), (3, .int (p2))] rfl ?_
  refine zx_iload_n C dX5_adopt_0 1 rfl ?_
  refine zx_bipush (v := 34) C dX5_adopt_1 (by decide) ?_
  refine zx_icmp_lt C 36 dX5_adopt_3 (by decide) (fun c1 => ?_) (fun c1 => ?_)
  · replace hm := ip_e hm c1
    exact zx_lv [] [] rfl (j_X5_adopt_36 C htab hin    hm)
  · replace hm := in_e hm c1
    refine zx_iload_n C dX5_adopt_6 1 rfl ?_
    refine zx_aload_n C dX5_adopt_7 0 rfl ?_
    obtain ⟨k2, i3, hm⟩ := ckO_e hm
    refine zx_get (j := 7) C tC_5 k2 i3 ⟨by decide, Or.inl W_1_104⟩ dX5_adopt_8 (.int (tI (σ) (a0) 7)) rfl ?_
    refine zx_icmp_ge C 36 dX5_adopt_11 (by decide) (fun c4 => ?_) (fun c4 => ?_)
    · replace hm := ip_e hm c4
      exact zx_lv [] [] rfl (j_X5_adopt_36 C htab hin    hm)
    · replace hm := in_e hm c4
      refine zx_aload_n C dX5_adopt_14 0 rfl ?_
      obtain ⟨a5, h6, hm⟩ := osm_e hm
      refine zx_get (j := 1) C tC_5 k2 i3 ⟨by decide, Or.inl W_1_97⟩ dX5_adopt_15 (.ref a5) (rf_s h6) ?_
      refine zx_iload_n C dX5_adopt_18 1 rfl ?_
      refine zx_iconst (v := (-1)) C dX5_adopt_19 (by decide) ?_
      obtain ⟨n9, k7, i8, hm⟩ := ckR_e hm
      obtain ⟨h10, hm⟩ := ckI_e hm
      refine zx_iast C k7 i8 h10 dX5_adopt_20 ?_
      refine zx_aload_n C dX5_adopt_21 0 rfl ?_
      obtain ⟨a11, h12, hm⟩ := osm_e hm
      refine zx_get (j := 2) C tC_5 k2 i3 ⟨by decide, Or.inl W_1_98⟩ dX5_adopt_22 (.ref a11) (rf_s h12) ?_
      refine zx_iload_n C dX5_adopt_25 1 rfl ?_
      refine zx_iload_n C dX5_adopt_26 2 rfl ?_
      obtain ⟨n15, k13, i14, hm⟩ := ckR_e hm
      obtain ⟨h16, hm⟩ := ckI_e hm
      refine zx_iast C k13 i14 h16 dX5_adopt_27 ?_
      refine zx_aload_n C dX5_adopt_28 0 rfl ?_
      obtain ⟨a17, h18, hm⟩ := osm_e hm
      refine zx_get (j := 3) C tC_5 k2 i3 ⟨by decide, Or.inl W_1_99⟩ dX5_adopt_29 (.ref a17) (rf_s h18) ?_
      refine zx_iload_n C dX5_adopt_32 1 rfl ?_
      refine zx_iload_n C dX5_adopt_33 3 rfl ?_
      refine zx_i2b C dX5_adopt_34 ?_
      obtain ⟨n21, k19, i20, hm⟩ := ckR_e hm
      obtain ⟨h22, hm⟩ := ckI_e hm
      refine zx_bast C k19 i20 h22 dX5_adopt_35 ?_
      exact zx_lv [] [] rfl (j_X5_adopt_36 C htab hin    hm)
abbrev cX5_revoke : ByteArray := prog_7_method_26_code
def yX5_revoke : MethodName := ⟨"SyncTree$Space", "revoke", "(I)V"⟩
theorem Y_X5_revoke : tY yX5_revoke cX5_revoke 2 none 1 := ⟨W_5_53, W_1_3, ⟨by decide +kernel, by decide +kernel⟩, by decide +kernel⟩
theorem dX5_revoke_0 : decode cX5_revoke 0 = .ok (.aload_n 0, 1) := by decide +kernel
theorem dX5_revoke_1 : decode cX5_revoke 1 = .ok (.getfield 27, 3) := by decide +kernel
theorem dX5_revoke_4 : decode cX5_revoke 4 = .ok (.iload_n 1, 1) := by decide +kernel
theorem dX5_revoke_5 : decode cX5_revoke 5 = .ok (.baload, 1) := by decide +kernel
theorem dX5_revoke_6 : decode cX5_revoke 6 = .ok (.ifCond .eq 20, 3) := by decide +kernel
theorem dX5_revoke_9 : decode cX5_revoke 9 = .ok (.aload_n 0, 1) := by decide +kernel
theorem dX5_revoke_10 : decode cX5_revoke 10 = .ok (.getfield 27, 3) := by decide +kernel
theorem dX5_revoke_13 : decode cX5_revoke 13 = .ok (.iload_n 1, 1) := by decide +kernel
theorem dX5_revoke_14 : decode cX5_revoke 14 = .ok (.iconst 0, 1) := by decide +kernel
theorem dX5_revoke_15 : decode cX5_revoke 15 = .ok (.bastore, 1) := by decide +kernel
theorem dX5_revoke_16 : decode cX5_revoke 16 = .ok (.aload_n 0, 1) := by decide +kernel
theorem dX5_revoke_17 : decode cX5_revoke 17 = .ok (.dup, 1) := by decide +kernel
theorem dX5_revoke_18 : decode cX5_revoke 18 = .ok (.getfield 78, 3) := by decide +kernel
theorem dX5_revoke_21 : decode cX5_revoke 21 = .ok (.iconst 1, 1) := by decide +kernel
theorem dX5_revoke_22 : decode cX5_revoke 22 = .ok (.isub, 1) := by decide +kernel
theorem dX5_revoke_23 : decode cX5_revoke 23 = .ok (.putfield 78, 3) := by decide +kernel
theorem dX5_revoke_26 : decode cX5_revoke 26 = .ok (.aload_n 0, 1) := by decide +kernel
theorem dX5_revoke_27 : decode cX5_revoke 27 = .ok (.getfield 30, 3) := by decide +kernel
theorem dX5_revoke_30 : decode cX5_revoke 30 = .ok (.iload_n 1, 1) := by decide +kernel
theorem dX5_revoke_31 : decode cX5_revoke 31 = .ok (.baload, 1) := by decide +kernel
theorem dX5_revoke_32 : decode cX5_revoke 32 = .ok (.ifCond .ne 20, 3) := by decide +kernel
theorem dX5_revoke_35 : decode cX5_revoke 35 = .ok (.aload_n 0, 1) := by decide +kernel
theorem dX5_revoke_36 : decode cX5_revoke 36 = .ok (.getfield 30, 3) := by decide +kernel
theorem dX5_revoke_39 : decode cX5_revoke 39 = .ok (.iload_n 1, 1) := by decide +kernel
theorem dX5_revoke_40 : decode cX5_revoke 40 = .ok (.iconst 1, 1) := by decide +kernel
theorem dX5_revoke_41 : decode cX5_revoke 41 = .ok (.bastore, 1) := by decide +kernel
theorem dX5_revoke_42 : decode cX5_revoke 42 = .ok (.aload_n 0, 1) := by decide +kernel
theorem dX5_revoke_43 : decode cX5_revoke 43 = .ok (.dup, 1) := by decide +kernel
theorem dX5_revoke_44 : decode cX5_revoke 44 = .ok (.getfield 81, 3) := by decide +kernel
theorem dX5_revoke_47 : decode cX5_revoke 47 = .ok (.iconst 1, 1) := by decide +kernel
theorem dX5_revoke_48 : decode cX5_revoke 48 = .ok (.iadd, 1) := by decide +kernel
theorem dX5_revoke_49 : decode cX5_revoke 49 = .ok (.putfield 81, 3) := by decide +kernel
theorem dX5_revoke_52 : decode cX5_revoke 52 = .ok (.return_, 1) := by decide +kernel
def J_X5_revoke_52 (b0 fu : Nat)   (σ : tM) : Option ((Unit) × tM) := some ((), σ)
def J_X5_revoke_26 (b0 fu : Nat)  (x0 : Nat) (x1 : Int32) (σ : tM) : Option ((Unit) × tM) := ckO b0 (σ) (x0) 5 (osm (tA (σ) (x0) 5) (fun a12 => ckR b0 (σ) (a12) 1 (fun n16 => ckI (x1) (n16) (if (tI (σ) (a12) ((x1).toNatClampNeg)) = (0) then osm (tA (σ) (x0) 5) (fun a19 => ckR b0 (σ) (a19) 1 (fun n23 => ckI (x1) (n23) (J_X5_revoke_52 b0 fu    (sI (sI (σ) (a19) ((x1).toNatClampNeg) (vp_nar .byte ((1 : Int32)))) (x0) 12 ((tI (sI (σ) (a19) ((x1).toNatClampNeg) (vp_nar .byte ((1 : Int32)))) (x0) 12) + (1)))))) else J_X5_revoke_52 b0 fu    (σ)))))
def m_X5_revoke (b0 fu : Nat) (a0 : Nat) (p0 : Int32) (σ : tM) : Option ((Unit) × tM) := grw σ (ckO b0 (σ) (a0) 5 (osm (tA (σ) (a0) 4) (fun a3 => ckR b0 (σ) (a3) 1 (fun n7 => ckI (p0) (n7) (if (tI (σ) (a3) ((p0).toNatClampNeg)) = (0) then J_X5_revoke_26 b0 fu   (a0) (p0) (σ) else osm (tA (σ) (a0) 4) (fun a25 => ckR b0 (σ) (a25) 1 (fun n29 => ckI (p0) (n29) (J_X5_revoke_26 b0 fu   (a0) (p0) (sI (sI (σ) (a25) ((p0).toNatClampNeg) (vp_nar .byte ((0 : Int32)))) (a0) 11 ((tI (sI (σ) (a25) ((p0).toNatClampNeg) (vp_nar .byte ((0 : Int32)))) (a0) 11) - (1)))))))))))
set_option maxRecDepth 100000 in
set_option maxHeartbeats 1000000 in
theorem j_X5_revoke_52 {p : Program} {l : Launch} {e : Env} {s : State} {m : MethodId} {args : Array Value} {below : List Frame} {meth : Method} {c : Code} {D : va_G} {aC : Nat → ClassId} {b0 fu : Nat} {σ0 τ : tM} {v : Unit}  (C : tCx p s m args meth c yX5_revoke.cls cX5_revoke 2 none D aC b0 σ0) (htab : ∀ x ∈ c.exceptionTable.toList, False) (hin : meth.name = yX5_revoke.name)   {σ : tM} (hm : J_X5_revoke_52 b0 fu   σ = some (v, τ)) : tX p l e s m args below meth c 2 0 0 D aC b0 σ0 (.inl none) τ 52 [] [] σ := by
  unfold J_X5_revoke_52 at hm
  obtain ⟨rfl, rfl⟩ := ret_e hm
  exact zx_vret C rfl rfl rfl dX5_revoke_52
set_option maxRecDepth 100000 in
set_option maxHeartbeats 1000000 in
theorem j_X5_revoke_26 {p : Program} {l : Launch} {e : Env} {s : State} {m : MethodId} {args : Array Value} {below : List Frame} {meth : Method} {c : Code} {D : va_G} {aC : Nat → ClassId} {b0 fu : Nat} {σ0 τ : tM} {v : Unit}  (C : tCx p s m args meth c yX5_revoke.cls cX5_revoke 2 none D aC b0 σ0) (htab : ∀ x ∈ c.exceptionTable.toList, False) (hin : meth.name = yX5_revoke.name)  {x0 : Nat} {x1 : Int32} {σ : tM} (hm : J_X5_revoke_26 b0 fu  x0 x1 σ = some (v, τ)) : tX p l e s m args below meth c 2 0 0 D aC b0 σ0 (.inl none) τ 26 [(0, .ref (x0)), (1, .int (x1))] [] σ := by
  unfold J_X5_revoke_26 at hm
  refine zx_aload_n C dX5_revoke_26 0 rfl ?_
  obtain ⟨k10, i11, hm⟩ := ckO_e hm
  obtain ⟨a12, h13, hm⟩ := osm_e hm
  refine zx_get (j := 5) C tC_5 k10 i11 ⟨by decide, Or.inl W_1_101⟩ dX5_revoke_27 (.ref a12) (rf_s h13) ?_
  refine zx_iload_n C dX5_revoke_30 1 rfl ?_
  obtain ⟨n16, k14, i15, hm⟩ := ckR_e hm
  obtain ⟨h17, hm⟩ := ckI_e hm
  refine zx_bald C k14 i15 h17 dX5_revoke_31 ?_
  refine zx_if_ne C 52 dX5_revoke_32 (by decide) (fun c18 => ?_) (fun c18 => ?_)
  · replace hm := in_e hm c18
    exact zx_lv [] [] rfl (j_X5_revoke_52 C htab hin    hm)
  · replace hm := ip_e hm c18
    refine zx_aload_n C dX5_revoke_35 0 rfl ?_
    obtain ⟨a19, h20, hm⟩ := osm_e hm
    refine zx_get (j := 5) C tC_5 k10 i11 ⟨by decide, Or.inl W_1_101⟩ dX5_revoke_36 (.ref a19) (rf_s h20) ?_
    refine zx_iload_n C dX5_revoke_39 1 rfl ?_
    refine zx_iconst (v := 1) C dX5_revoke_40 (by decide) ?_
    obtain ⟨n23, k21, i22, hm⟩ := ckR_e hm
    obtain ⟨h24, hm⟩ := ckI_e hm
    refine zx_bast C k21 i22 h24 dX5_revoke_41 ?_
    refine zx_aload_n C dX5_revoke_42 0 rfl ?_
    refine zx_dup C dX5_revoke_43 rfl ?_
    refine zx_get (j := 12) C tC_5 k10 i11 ⟨by decide, Or.inl W_1_113⟩ dX5_revoke_44 (.int (tI (sI (σ) (a19) ((x1).toNatClampNeg) (vp_nar .byte ((1 : Int32)))) (x0) 12)) rfl ?_
    refine zx_iconst (v := 1) C dX5_revoke_47 (by decide) ?_
    refine zx_iadd C dX5_revoke_48 ?_
    refine zx_put (j := 12) (ρ := sI (sI (σ) (a19) ((x1).toNatClampNeg) (vp_nar .byte ((1 : Int32)))) (x0) 12 ((tI (sI (σ) (a19) ((x1).toNatClampNeg) (vp_nar .byte ((1 : Int32)))) (x0) 12) + (1))) C tC_5 k10 i11 ⟨by decide, Or.inl W_1_113⟩ rfl rfl rfl (sI_ok (fun _ => rfl)) dX5_revoke_49 ?_
    exact zx_lv [] [] rfl (j_X5_revoke_52 C htab hin    hm)
set_option maxRecDepth 100000 in
set_option maxHeartbeats 1000000 in
theorem c_X5_revoke {l : Launch} {D : va_G} {aC : Nat → ClassId} {b0 fu : Nat} {a0 : Nat} {p0 : Int32} {σ τ : tM} {v : Unit} (hm : m_X5_revoke b0 fu a0 p0 σ = some (v, τ)) : tMt l D aC b0 yX5_revoke (Cond.code yX5_revoke cX5_revoke 2 none) 0 0 [.ref (a0), .int (p0)] σ (.inl none) τ := by
  unfold m_X5_revoke at hm
  obtain ⟨hg, hm⟩ := grw_e hm
  refine tMt_of (n := 0) rfl (Nat.le_of_ble_eq_true rfl) hg ?_
  intro p e s m below meth c C htab hin
  refine zx_lv [0, 1] [(0, .ref (a0)), (1, .int (p0))] rfl ?_
  refine zx_aload_n C dX5_revoke_0 0 rfl ?_
  obtain ⟨k1, i2, hm⟩ := ckO_e hm
  obtain ⟨a3, h4, hm⟩ := osm_e hm
  refine zx_get (j := 4) C tC_5 k1 i2 ⟨by decide, Or.inl W_1_100⟩ dX5_revoke_1 (.ref a3) (rf_s h4) ?_
  refine zx_iload_n C dX5_revoke_4 1 rfl ?_
  obtain ⟨n7, k5, i6, hm⟩ := ckR_e hm
  obtain ⟨h8, hm⟩ := ckI_e hm
  refine zx_bald C k5 i6 h8 dX5_revoke_5 ?_
  refine zx_if_eq C 26 dX5_revoke_6 (by decide) (fun c9 => ?_) (fun c9 => ?_)
  · replace hm := ip_e hm c9
    exact zx_lv [0, 1] [(0, .ref (a0)), (1, .int (p0))] rfl (j_X5_revoke_26 C htab hin    hm)
  · replace hm := in_e hm c9
    refine zx_aload_n C dX5_revoke_9 0 rfl ?_
    obtain ⟨a25, h26, hm⟩ := osm_e hm
    refine zx_get (j := 4) C tC_5 k1 i2 ⟨by decide, Or.inl W_1_100⟩ dX5_revoke_10 (.ref a25) (rf_s h26) ?_
    refine zx_iload_n C dX5_revoke_13 1 rfl ?_
    refine zx_iconst (v := 0) C dX5_revoke_14 (by decide) ?_
    obtain ⟨n29, k27, i28, hm⟩ := ckR_e hm
    obtain ⟨h30, hm⟩ := ckI_e hm
    refine zx_bast C k27 i28 h30 dX5_revoke_15 ?_
    refine zx_aload_n C dX5_revoke_16 0 rfl ?_
    refine zx_dup C dX5_revoke_17 rfl ?_
    refine zx_get (j := 11) C tC_5 k1 i2 ⟨by decide, Or.inl W_1_111⟩ dX5_revoke_18 (.int (tI (sI (σ) (a25) ((p0).toNatClampNeg) (vp_nar .byte ((0 : Int32)))) (a0) 11)) rfl ?_
    refine zx_iconst (v := 1) C dX5_revoke_21 (by decide) ?_
    refine zx_isub C dX5_revoke_22 ?_
    refine zx_put (j := 11) (ρ := sI (sI (σ) (a25) ((p0).toNatClampNeg) (vp_nar .byte ((0 : Int32)))) (a0) 11 ((tI (sI (σ) (a25) ((p0).toNatClampNeg) (vp_nar .byte ((0 : Int32)))) (a0) 11) - (1))) C tC_5 k1 i2 ⟨by decide, Or.inl W_1_111⟩ rfl rfl rfl (sI_ok (fun _ => rfl)) dX5_revoke_23 ?_
    exact zx_lv [0, 1] [(0, .ref (a0)), (1, .int (p0))] rfl (j_X5_revoke_26 C htab hin    hm)
abbrev cX5_mark : ByteArray := prog_7_method_27_code
def yX5_mark : MethodName := ⟨"SyncTree$Space", "mark", "(IZ)V"⟩
theorem Y_X5_mark : tY yX5_mark cX5_mark 7 none 2 := ⟨W_4_214, W_1_3, ⟨by decide +kernel, by decide +kernel⟩, by decide +kernel⟩
theorem dX5_mark_0 : decode cX5_mark 0 = .ok (.iload_n 1, 1) := by decide +kernel
theorem dX5_mark_1 : decode cX5_mark 1 = .ok (.bipush 34, 2) := by decide +kernel
theorem dX5_mark_3 : decode cX5_mark 3 = .ok (.isub, 1) := by decide +kernel
theorem dX5_mark_4 : decode cX5_mark 4 = .ok (.istore_n 3, 1) := by decide +kernel
theorem dX5_mark_5 : decode cX5_mark 5 = .ok (.bipush 32, 2) := by decide +kernel
theorem dX5_mark_7 : decode cX5_mark 7 = .ok (.iload_n 3, 1) := by decide +kernel
theorem dX5_mark_8 : decode cX5_mark 8 = .ok (.bipush 6, 2) := by decide +kernel
theorem dX5_mark_10 : decode cX5_mark 10 = .ok (.ishr, 1) := by decide +kernel
theorem dX5_mark_11 : decode cX5_mark 11 = .ok (.bipush 31, 2) := by decide +kernel
theorem dX5_mark_13 : decode cX5_mark 13 = .ok (.iand, 1) := by decide +kernel
theorem dX5_mark_14 : decode cX5_mark 14 = .ok (.iadd, 1) := by decide +kernel
theorem dX5_mark_15 : decode cX5_mark 15 = .ok (.istore 4, 2) := by decide +kernel
theorem dX5_mark_17 : decode cX5_mark 17 = .ok (.lconst 1, 1) := by decide +kernel
theorem dX5_mark_18 : decode cX5_mark 18 = .ok (.iload_n 3, 1) := by decide +kernel
theorem dX5_mark_19 : decode cX5_mark 19 = .ok (.bipush 63, 2) := by decide +kernel
theorem dX5_mark_21 : decode cX5_mark 21 = .ok (.iand, 1) := by decide +kernel
theorem dX5_mark_22 : decode cX5_mark 22 = .ok (.lshl, 1) := by decide +kernel
theorem dX5_mark_23 : decode cX5_mark 23 = .ok (.lstore 5, 2) := by decide +kernel
theorem dX5_mark_25 : decode cX5_mark 25 = .ok (.aload_n 0, 1) := by decide +kernel
theorem dX5_mark_26 : decode cX5_mark 26 = .ok (.getfield 10, 3) := by decide +kernel
theorem dX5_mark_29 : decode cX5_mark 29 = .ok (.iload 4, 2) := by decide +kernel
theorem dX5_mark_31 : decode cX5_mark 31 = .ok (.iload_n 2, 1) := by decide +kernel
theorem dX5_mark_32 : decode cX5_mark 32 = .ok (.ifCond .eq 16, 3) := by decide +kernel
theorem dX5_mark_35 : decode cX5_mark 35 = .ok (.aload_n 0, 1) := by decide +kernel
theorem dX5_mark_36 : decode cX5_mark 36 = .ok (.getfield 10, 3) := by decide +kernel
theorem dX5_mark_39 : decode cX5_mark 39 = .ok (.iload 4, 2) := by decide +kernel
theorem dX5_mark_41 : decode cX5_mark 41 = .ok (.laload, 1) := by decide +kernel
theorem dX5_mark_42 : decode cX5_mark 42 = .ok (.lload 5, 2) := by decide +kernel
theorem dX5_mark_44 : decode cX5_mark 44 = .ok (.lor, 1) := by decide +kernel
theorem dX5_mark_45 : decode cX5_mark 45 = .ok (.goto 17, 3) := by decide +kernel
theorem dX5_mark_48 : decode cX5_mark 48 = .ok (.aload_n 0, 1) := by decide +kernel
theorem dX5_mark_49 : decode cX5_mark 49 = .ok (.getfield 10, 3) := by decide +kernel
theorem dX5_mark_52 : decode cX5_mark 52 = .ok (.iload 4, 2) := by decide +kernel
theorem dX5_mark_54 : decode cX5_mark 54 = .ok (.laload, 1) := by decide +kernel
theorem dX5_mark_55 : decode cX5_mark 55 = .ok (.lload 5, 2) := by decide +kernel
theorem dX5_mark_57 : decode cX5_mark 57 = .ok (.ldc2_w 102, 3) := by decide +kernel
theorem dX5_mark_60 : decode cX5_mark 60 = .ok (.lxor, 1) := by decide +kernel
theorem dX5_mark_61 : decode cX5_mark 61 = .ok (.land, 1) := by decide +kernel
theorem dX5_mark_62 : decode cX5_mark 62 = .ok (.lastore, 1) := by decide +kernel
theorem dX5_mark_63 : decode cX5_mark 63 = .ok (.return_, 1) := by decide +kernel
def J_X5_mark_62 (b0 fu : Nat)  (s0 : Nat) (s1 : Int32) (s2 : Int64) (σ : tM) : Option ((Unit) × tM) := ckR b0 (σ) (s0) 3 (fun n17 => ckI (s1) (n17) (some ((), sL (σ) (s0) ((s1).toNatClampNeg) (s2))))
def m_X5_mark (b0 fu : Nat) (a0 : Nat) (p0 : Int32) (p1 : Int32) (σ : tM) : Option ((Unit) × tM) := grw σ (ltb (((p0) - (34) : Int32)) (fun y1 => ltb (((32) + (((y1) >>> (((6 : Int32)) &&& 31)) &&& (31)) : Int32)) (fun y2 => ltb (((1) <<< (((y1) &&& (63)).toInt64 &&& 63) : Int64)) (fun y3 => ckO b0 (σ) (a0) 5 (osm (tA (σ) (a0) 0) (fun a6 => if (p1) = (0) then osm (tA (σ) (a0) 0) (fun a9 => ckR b0 (σ) (a9) 3 (fun n13 => ckI (y2) (n13) (J_X5_mark_62 b0 fu   (a6) (y2) ((tL (σ) (a9) ((y2).toNatClampNeg)) &&& ((y3) ^^^ ((-1)))) (σ)))) else osm (tA (σ) (a0) 0) (fun a19 => ckR b0 (σ) (a19) 3 (fun n23 => ckI (y2) (n23) (J_X5_mark_62 b0 fu   (a6) (y2) ((tL (σ) (a19) ((y2).toNatClampNeg)) ||| (y3)) (σ))))))))))
set_option maxRecDepth 100000 in
set_option maxHeartbeats 1000000 in
theorem j_X5_mark_62 {p : Program} {l : Launch} {e : Env} {s : State} {m : MethodId} {args : Array Value} {below : List Frame} {meth : Method} {c : Code} {D : va_G} {aC : Nat → ClassId} {b0 fu : Nat} {σ0 τ : tM} {v : Unit}  (C : tCx p s m args meth c yX5_mark.cls cX5_mark 7 none D aC b0 σ0) (htab : ∀ x ∈ c.exceptionTable.toList, False) (hin : meth.name = yX5_mark.name)  {s0 : Nat} {s1 : Int32} {s2 : Int64} {σ : tM} (hm : J_X5_mark_62 b0 fu  s0 s1 s2 σ = some (v, τ)) : tX p l e s m args below meth c 7 0 0 D aC b0 σ0 (.inl none) τ 62 [] [.long (s2), .int (s1), .ref (s0)] σ := by
  unfold J_X5_mark_62 at hm
  obtain ⟨n17, k15, i16, hm⟩ := ckR_e hm
  obtain ⟨h18, hm⟩ := ckI_e hm
  refine zx_last C k15 i16 h18 dX5_mark_62 ?_
  obtain ⟨rfl, rfl⟩ := ret_e hm
  exact zx_vret C rfl rfl rfl dX5_mark_63
set_option maxRecDepth 100000 in
set_option maxHeartbeats 1000000 in
theorem c_X5_mark {l : Launch} {D : va_G} {aC : Nat → ClassId} {b0 fu : Nat} {a0 : Nat} {p0 : Int32} {p1 : Int32} {σ τ : tM} {v : Unit} (hm : m_X5_mark b0 fu a0 p0 p1 σ = some (v, τ)) : tMt l D aC b0 yX5_mark (Cond.code yX5_mark cX5_mark 7 none) 0 0 [.ref (a0), .int (p0), .int (p1)] σ (.inl none) τ := by
  unfold m_X5_mark at hm
  obtain ⟨hg, hm⟩ := grw_e hm
  refine tMt_of (n := 0) rfl (Nat.le_of_ble_eq_true rfl) hg ?_
  intro p e s m below meth c C htab hin
  refine zx_lv [0, 1, 2] [(0, .ref (a0)), (1, .int (p0)), (2, .int (p1))] rfl ?_
  refine zx_iload_n C dX5_mark_0 1 rfl ?_
  refine zx_bipush (v := 34) C dX5_mark_1 (by decide) ?_
  refine zx_isub C dX5_mark_3 ?_
  refine zx_topi (fun y1 hy1 => ?_)
  replace hm := ltb_e hm hy1
  refine zx_istore_n C [(3, .int (y1)), (0, .ref (a0)), (1, .int (p0)), (2, .int (p1))] dX5_mark_4 rfl (by decide) rfl ?_
  refine zx_bipush (v := 32) C dX5_mark_5 (by decide) ?_
  refine zx_iload_n C dX5_mark_7 0 rfl ?_
  refine zx_bipush (v := 6) C dX5_mark_8 (by decide) ?_
  refine zx_ishr C dX5_mark_10 ?_
  refine zx_bipush (v := 31) C dX5_mark_11 (by decide) ?_
  refine zx_iand C dX5_mark_13 ?_
  refine zx_iadd C dX5_mark_14 ?_
  refine zx_topi (fun y2 hy2 => ?_)
  replace hm := ltb_e hm hy2
  refine zx_istore C [(4, .int (y2)), (3, .int (y1)), (0, .ref (a0)), (1, .int (p0)), (2, .int (p1))] dX5_mark_15 (by decide) rfl ?_
  refine zx_lconst (v := 1) C dX5_mark_17 (by decide) ?_
  refine zx_iload_n C dX5_mark_18 1 rfl ?_
  refine zx_bipush (v := 63) C dX5_mark_19 (by decide) ?_
  refine zx_iand C dX5_mark_21 ?_
  refine zx_lshl C dX5_mark_22 ?_
  refine zx_topl (fun y3 hy3 => ?_)
  replace hm := ltb_e hm hy3
  refine zx_lstore C [(5, .long (y3)), (4, .int (y2)), (3, .int (y1)), (0, .ref (a0)), (1, .int (p0)), (2, .int (p1))] dX5_mark_23 (by decide) rfl ?_
  refine zx_aload_n C dX5_mark_25 3 rfl ?_
  obtain ⟨k4, i5, hm⟩ := ckO_e hm
  obtain ⟨a6, h7, hm⟩ := osm_e hm
  refine zx_get (j := 0) C tC_5 k4 i5 ⟨by decide, Or.inl W_1_94⟩ dX5_mark_26 (.ref a6) (rf_s h7) ?_
  refine zx_iload C dX5_mark_29 1 rfl ?_
  refine zx_iload_n C dX5_mark_31 5 rfl ?_
  refine zx_if_eq C 48 dX5_mark_32 (by decide) (fun c8 => ?_) (fun c8 => ?_)
  · replace hm := ip_e hm c8
    refine zx_aload_n C dX5_mark_48 3 rfl ?_
    obtain ⟨a9, h10, hm⟩ := osm_e hm
    refine zx_get (j := 0) C tC_5 k4 i5 ⟨by decide, Or.inl W_1_94⟩ dX5_mark_49 (.ref a9) (rf_s h10) ?_
    refine zx_iload C dX5_mark_52 1 rfl ?_
    obtain ⟨n13, k11, i12, hm⟩ := ckR_e hm
    obtain ⟨h14, hm⟩ := ckI_e hm
    refine zx_lald C k11 i12 h14 dX5_mark_54 ?_
    refine zx_lload C dX5_mark_55 0 rfl ?_
    refine zx_ldc2 (v := (-1)) C W_4_185 dX5_mark_57 ?_
    refine zx_lxor C dX5_mark_60 ?_
    refine zx_land C dX5_mark_61 ?_
    exact zx_lv [] [] rfl (j_X5_mark_62 C htab hin    hm)
  · replace hm := in_e hm c8
    refine zx_aload_n C dX5_mark_35 3 rfl ?_
    obtain ⟨a19, h20, hm⟩ := osm_e hm
    refine zx_get (j := 0) C tC_5 k4 i5 ⟨by decide, Or.inl W_1_94⟩ dX5_mark_36 (.ref a19) (rf_s h20) ?_
    refine zx_iload C dX5_mark_39 1 rfl ?_
    obtain ⟨n23, k21, i22, hm⟩ := ckR_e hm
    obtain ⟨h24, hm⟩ := ckI_e hm
    refine zx_lald C k21 i22 h24 dX5_mark_41 ?_
    refine zx_lload C dX5_mark_42 0 rfl ?_
    refine zx_lor C dX5_mark_44 ?_
    refine zx_goto C 62 dX5_mark_45 (by decide) ?_
    exact zx_lv [] [] rfl (j_X5_mark_62 C htab hin    hm)
abbrev cX5_freeRetired : ByteArray := prog_7_method_28_code
def yX5_freeRetired : MethodName := ⟨"SyncTree$Space", "freeRetired", "(I)V"⟩
theorem Y_X5_freeRetired : tY yX5_freeRetired cX5_freeRetired 3 none 1 := ⟨W_3_219, W_1_3, ⟨by decide +kernel, by decide +kernel⟩, by decide +kernel⟩
theorem dX5_freeRetired_0 : decode cX5_freeRetired 0 = .ok (.bipush 34, 2) := by decide +kernel
theorem dX5_freeRetired_2 : decode cX5_freeRetired 2 = .ok (.istore_n 2, 1) := by decide +kernel
theorem dX5_freeRetired_3 : decode cX5_freeRetired 3 = .ok (.iload_n 2, 1) := by decide +kernel
theorem dX5_freeRetired_4 : decode cX5_freeRetired 4 = .ok (.aload_n 0, 1) := by decide +kernel
theorem dX5_freeRetired_5 : decode cX5_freeRetired 5 = .ok (.getfield 48, 3) := by decide +kernel
theorem dX5_freeRetired_8 : decode cX5_freeRetired 8 = .ok (.if_icmp .ge 74, 3) := by decide +kernel
theorem dX5_freeRetired_11 : decode cX5_freeRetired 11 = .ok (.aload_n 0, 1) := by decide +kernel
theorem dX5_freeRetired_12 : decode cX5_freeRetired 12 = .ok (.getfield 87, 3) := by decide +kernel
theorem dX5_freeRetired_15 : decode cX5_freeRetired 15 = .ok (.ifCond .le 67, 3) := by decide +kernel
theorem dX5_freeRetired_18 : decode cX5_freeRetired 18 = .ok (.aload_n 0, 1) := by decide +kernel
theorem dX5_freeRetired_19 : decode cX5_freeRetired 19 = .ok (.getfield 16, 3) := by decide +kernel
theorem dX5_freeRetired_22 : decode cX5_freeRetired 22 = .ok (.iload_n 2, 1) := by decide +kernel
theorem dX5_freeRetired_23 : decode cX5_freeRetired 23 = .ok (.iaload, 1) := by decide +kernel
theorem dX5_freeRetired_24 : decode cX5_freeRetired 24 = .ok (.ifCond .le 52, 3) := by decide +kernel
theorem dX5_freeRetired_27 : decode cX5_freeRetired 27 = .ok (.aload_n 0, 1) := by decide +kernel
theorem dX5_freeRetired_28 : decode cX5_freeRetired 28 = .ok (.getfield 16, 3) := by decide +kernel
theorem dX5_freeRetired_31 : decode cX5_freeRetired 31 = .ok (.iload_n 2, 1) := by decide +kernel
theorem dX5_freeRetired_32 : decode cX5_freeRetired 32 = .ok (.iaload, 1) := by decide +kernel
theorem dX5_freeRetired_33 : decode cX5_freeRetired 33 = .ok (.iload_n 1, 1) := by decide +kernel
theorem dX5_freeRetired_34 : decode cX5_freeRetired 34 = .ok (.if_icmp .gt 42, 3) := by decide +kernel
theorem dX5_freeRetired_37 : decode cX5_freeRetired 37 = .ok (.aload_n 0, 1) := by decide +kernel
theorem dX5_freeRetired_38 : decode cX5_freeRetired 38 = .ok (.getfield 16, 3) := by decide +kernel
theorem dX5_freeRetired_41 : decode cX5_freeRetired 41 = .ok (.iload_n 2, 1) := by decide +kernel
theorem dX5_freeRetired_42 : decode cX5_freeRetired 42 = .ok (.iconst 0, 1) := by decide +kernel
theorem dX5_freeRetired_43 : decode cX5_freeRetired 43 = .ok (.iastore, 1) := by decide +kernel
theorem dX5_freeRetired_44 : decode cX5_freeRetired 44 = .ok (.aload_n 0, 1) := by decide +kernel
theorem dX5_freeRetired_45 : decode cX5_freeRetired 45 = .ok (.dup, 1) := by decide +kernel
theorem dX5_freeRetired_46 : decode cX5_freeRetired 46 = .ok (.getfield 87, 3) := by decide +kernel
theorem dX5_freeRetired_49 : decode cX5_freeRetired 49 = .ok (.iconst 1, 1) := by decide +kernel
theorem dX5_freeRetired_50 : decode cX5_freeRetired 50 = .ok (.isub, 1) := by decide +kernel
theorem dX5_freeRetired_51 : decode cX5_freeRetired 51 = .ok (.putfield 87, 3) := by decide +kernel
theorem dX5_freeRetired_54 : decode cX5_freeRetired 54 = .ok (.aload_n 0, 1) := by decide +kernel
theorem dX5_freeRetired_55 : decode cX5_freeRetired 55 = .ok (.dup, 1) := by decide +kernel
theorem dX5_freeRetired_56 : decode cX5_freeRetired 56 = .ok (.getfield 84, 3) := by decide +kernel
theorem dX5_freeRetired_59 : decode cX5_freeRetired 59 = .ok (.iconst 1, 1) := by decide +kernel
theorem dX5_freeRetired_60 : decode cX5_freeRetired 60 = .ok (.iadd, 1) := by decide +kernel
theorem dX5_freeRetired_61 : decode cX5_freeRetired 61 = .ok (.putfield 84, 3) := by decide +kernel
theorem dX5_freeRetired_64 : decode cX5_freeRetired 64 = .ok (.aload_n 0, 1) := by decide +kernel
theorem dX5_freeRetired_65 : decode cX5_freeRetired 65 = .ok (.aload_n 0, 1) := by decide +kernel
theorem dX5_freeRetired_66 : decode cX5_freeRetired 66 = .ok (.getfield 90, 3) := by decide +kernel
theorem dX5_freeRetired_69 : decode cX5_freeRetired 69 = .ok (.iload_n 2, 1) := by decide +kernel
theorem dX5_freeRetired_70 : decode cX5_freeRetired 70 = .ok (.invokestatic 39, 3) := by decide +kernel
theorem dX5_freeRetired_73 : decode cX5_freeRetired 73 = .ok (.putfield 90, 3) := by decide +kernel
theorem dX5_freeRetired_76 : decode cX5_freeRetired 76 = .ok (.iinc 2 1, 3) := by decide +kernel
theorem dX5_freeRetired_79 : decode cX5_freeRetired 79 = .ok (.goto (-76), 3) := by decide +kernel
theorem dX5_freeRetired_82 : decode cX5_freeRetired 82 = .ok (.return_, 1) := by decide +kernel
def J_X5_freeRetired_82 (b0 fu : Nat)   (σ : tM) : Option ((Unit) × tM) := some ((), σ)
def J_X5_freeRetired_76 (b0 fu : Nat) (rc3 : Nat → Int32 → Int32 → tM → Option ((Unit) × tM)) (x0 : Nat) (x1 : Int32) (x2 : Int32) (σ : tM) : Option ((Unit) × tM) := ltb ((x2) + Int32.ofInt 1) (fun y12 => rc3 (x0) (x1) (y12) (σ))
def L_X5_freeRetired_3 (b0 fu : Nat)  : Nat → Nat → Int32 → Int32 → tM → Option ((Unit) × tM)
  | 0, _, _, _, _ => none
  | n + 1, x0, x1, x2, σ => ltb (L_X5_freeRetired_3 b0 fu  n) (fun rc3 => ckO b0 (σ) (x0) 5 (if (tI (σ) (x0) 7) ≤ (x2) then J_X5_freeRetired_82 b0 fu    (σ) else if (tI (σ) (x0) 10) ≤ (0) then J_X5_freeRetired_82 b0 fu    (σ) else osm (tA (σ) (x0) 1) (fun a5 => ckR b0 (σ) (a5) 0 (fun n9 => ckI (x2) (n9) (if (tI (σ) (a5) ((x2).toNatClampNeg)) ≤ (0) then J_X5_freeRetired_76 b0 fu rc3  (x0) (x1) (x2) (σ) else osm (tA (σ) (x0) 1) (fun a13 => ckR b0 (σ) (a13) 0 (fun n17 => ckI (x2) (n17) (if (x1) < (tI (σ) (a13) ((x2).toNatClampNeg)) then J_X5_freeRetired_76 b0 fu rc3  (x0) (x1) (x2) (σ) else osm (tA (σ) (x0) 1) (fun a20 => ckR b0 (σ) (a20) 0 (fun n24 => ckI (x2) (n24) (J_X5_freeRetired_76 b0 fu rc3  (x0) (x1) (x2) (sI (sI (sI (sI (σ) (a20) ((x2).toNatClampNeg) (0)) (x0) 10 ((tI (sI (σ) (a20) ((x2).toNatClampNeg) (0)) (x0) 10) - (1))) (x0) 9 ((tI (sI (sI (σ) (a20) ((x2).toNatClampNeg) (0)) (x0) 10 ((tI (sI (σ) (a20) ((x2).toNatClampNeg) (0)) (x0) 10) - (1))) (x0) 9) + (1))) (x0) 14 ((if (x2) < (tI (sI (sI (sI (σ) (a20) ((x2).toNatClampNeg) (0)) (x0) 10 ((tI (sI (σ) (a20) ((x2).toNatClampNeg) (0)) (x0) 10) - (1))) (x0) 9 ((tI (sI (sI (σ) (a20) ((x2).toNatClampNeg) (0)) (x0) 10 ((tI (sI (σ) (a20) ((x2).toNatClampNeg) (0)) (x0) 10) - (1))) (x0) 9) + (1))) (x0) 14) then (x2) else (tI (sI (sI (sI (σ) (a20) ((x2).toNatClampNeg) (0)) (x0) 10 ((tI (sI (σ) (a20) ((x2).toNatClampNeg) (0)) (x0) 10) - (1))) (x0) 9 ((tI (sI (sI (σ) (a20) ((x2).toNatClampNeg) (0)) (x0) 10 ((tI (sI (σ) (a20) ((x2).toNatClampNeg) (0)) (x0) 10) - (1))) (x0) 9) + (1))) (x0) 14) : Int32))))))))))))))
def m_X5_freeRetired (b0 fu : Nat) (a0 : Nat) (p0 : Int32) (σ : tM) : Option ((Unit) × tM) := grw σ (L_X5_freeRetired_3 b0 fu  (fu) (a0) (p0) (34) (σ))
set_option maxRecDepth 100000 in
set_option maxHeartbeats 1000000 in
theorem j_X5_freeRetired_82 {p : Program} {l : Launch} {e : Env} {s : State} {m : MethodId} {args : Array Value} {below : List Frame} {meth : Method} {c : Code} {D : va_G} {aC : Nat → ClassId} {b0 fu : Nat} {σ0 τ : tM} {v : Unit}  (C : tCx p s m args meth c yX5_freeRetired.cls cX5_freeRetired 3 none D aC b0 σ0) (htab : ∀ x ∈ c.exceptionTable.toList, False) (hin : meth.name = yX5_freeRetired.name)   {σ : tM} (hm : J_X5_freeRetired_82 b0 fu   σ = some (v, τ)) : tX p l e s m args below meth c 3 1 21 D aC b0 σ0 (.inl none) τ 82 [] [] σ := by
  unfold J_X5_freeRetired_82 at hm
  obtain ⟨rfl, rfl⟩ := ret_e hm
  exact zx_vret C rfl rfl rfl dX5_freeRetired_82
set_option maxRecDepth 100000 in
set_option maxHeartbeats 1000000 in
theorem j_X5_freeRetired_76 {p : Program} {l : Launch} {e : Env} {s : State} {m : MethodId} {args : Array Value} {below : List Frame} {meth : Method} {c : Code} {D : va_G} {aC : Nat → ClassId} {b0 fu : Nat} {σ0 τ : tM} {v : Unit} {rc3 : Nat → Int32 → Int32 → tM → Option ((Unit) × tM)} (C : tCx p s m args meth c yX5_freeRetired.cls cX5_freeRetired 3 none D aC b0 σ0) (htab : ∀ x ∈ c.exceptionTable.toList, False) (hin : meth.name = yX5_freeRetired.name) (hrc3 : ∀ (x0 : Nat) (x1 : Int32) (x2 : Int32) (ρ : tM), rc3 x0 x1 x2 ρ = some (v, τ) → tX p l e s m args below meth c 3 1 21 D aC b0 σ0 (.inl none) τ 3 [(0, .ref (x0)), (1, .int (x1)), (2, .int (x2))] [] ρ) {x0 : Nat} {x1 : Int32} {x2 : Int32} {σ : tM} (hm : J_X5_freeRetired_76 b0 fu rc3 x0 x1 x2 σ = some (v, τ)) : tX p l e s m args below meth c 3 1 21 D aC b0 σ0 (.inl none) τ 76 [(0, .ref (x0)), (1, .int (x1)), (2, .int (x2))] [] σ := by
  unfold J_X5_freeRetired_76 at hm
  obtain ⟨y12, hy12⟩ : ∃ z : Int32, z = (x2) + Int32.ofInt 1 := ⟨_, rfl⟩
  replace hm := ltb_e hm hy12
  refine zx_iinc C [(2, .int (y12)), (0, .ref (x0)), (1, .int (x1))] dX5_freeRetired_76 2 rfl hy12.symm (by decide) rfl ?_
  refine zx_goto C 3 dX5_freeRetired_79 (by decide) ?_
  exact zx_lv [1, 2, 0] [(0, .ref (x0)), (1, .int (x1)), (2, .int (y12))] rfl (hrc3 _ _ _ _ hm)
set_option maxRecDepth 100000 in
set_option maxHeartbeats 1000000 in
theorem l_X5_freeRetired_3 {p : Program} {l : Launch} {e : Env} {s : State} {m : MethodId} {args : Array Value} {below : List Frame} {meth : Method} {c : Code} {D : va_G} {aC : Nat → ClassId} {b0 fu : Nat} {σ0 τ : tM} {v : Unit}  (C : tCx p s m args meth c yX5_freeRetired.cls cX5_freeRetired 3 none D aC b0 σ0) (htab : ∀ x ∈ c.exceptionTable.toList, False) (hin : meth.name = yX5_freeRetired.name)  : ∀ (n : Nat) (x0 : Nat) (x1 : Int32) (x2 : Int32) (σ : tM), L_X5_freeRetired_3 b0 fu  n x0 x1 x2 σ = some (v, τ) → tX p l e s m args below meth c 3 1 21 D aC b0 σ0 (.inl none) τ 3 [(0, .ref (x0)), (1, .int (x1)), (2, .int (x2))] [] σ := by
  intro n
  induction n with
  | zero => intro x0 x1 x2 σ hm; unfold L_X5_freeRetired_3 at hm; cases hm
  | succ n ih =>
    intro x0 x1 x2 σ hm
    unfold L_X5_freeRetired_3 at hm
    obtain ⟨rc3, hrc⟩ : ∃ z, z = L_X5_freeRetired_3 b0 fu  n := ⟨_, rfl⟩
    replace hm := ltb_e hm hrc
    rw [← hrc] at ih
    have hrc3 := ih
    clear ih hrc
    refine zx_iload_n C dX5_freeRetired_3 2 rfl ?_
    refine zx_aload_n C dX5_freeRetired_4 0 rfl ?_
    obtain ⟨k1, i2, hm⟩ := ckO_e hm
    refine zx_get (j := 7) C tC_5 k1 i2 ⟨by decide, Or.inl W_1_104⟩ dX5_freeRetired_5 (.int (tI (σ) (x0) 7)) rfl ?_
    refine zx_icmp_ge C 82 dX5_freeRetired_8 (by decide) (fun c3 => ?_) (fun c3 => ?_)
    · replace hm := ip_e hm c3
      exact zx_lv [] [] rfl (j_X5_freeRetired_82 C htab hin    hm)
    · replace hm := in_e hm c3
      refine zx_aload_n C dX5_freeRetired_11 0 rfl ?_
      refine zx_get (j := 10) C tC_5 k1 i2 ⟨by decide, Or.inl W_1_110⟩ dX5_freeRetired_12 (.int (tI (σ) (x0) 10)) rfl ?_
      refine zx_if_le C 82 dX5_freeRetired_15 (by decide) (fun c4 => ?_) (fun c4 => ?_)
      · replace hm := ip_e hm c4
        exact zx_lv [] [] rfl (j_X5_freeRetired_82 C htab hin    hm)
      · replace hm := in_e hm c4
        refine zx_aload_n C dX5_freeRetired_18 0 rfl ?_
        obtain ⟨a5, h6, hm⟩ := osm_e hm
        refine zx_get (j := 1) C tC_5 k1 i2 ⟨by decide, Or.inl W_1_97⟩ dX5_freeRetired_19 (.ref a5) (rf_s h6) ?_
        refine zx_iload_n C dX5_freeRetired_22 2 rfl ?_
        obtain ⟨n9, k7, i8, hm⟩ := ckR_e hm
        obtain ⟨h10, hm⟩ := ckI_e hm
        refine zx_iald C k7 i8 h10 dX5_freeRetired_23 ?_
        refine zx_if_le C 76 dX5_freeRetired_24 (by decide) (fun c11 => ?_) (fun c11 => ?_)
        · replace hm := ip_e hm c11
          exact zx_lv [0, 1, 2] [(0, .ref (x0)), (1, .int (x1)), (2, .int (x2))] rfl (j_X5_freeRetired_76 C htab hin hrc3   hm)
        · replace hm := in_e hm c11
          refine zx_aload_n C dX5_freeRetired_27 0 rfl ?_
          obtain ⟨a13, h14, hm⟩ := osm_e hm
          refine zx_get (j := 1) C tC_5 k1 i2 ⟨by decide, Or.inl W_1_97⟩ dX5_freeRetired_28 (.ref a13) (rf_s h14) ?_
          refine zx_iload_n C dX5_freeRetired_31 2 rfl ?_
          obtain ⟨n17, k15, i16, hm⟩ := ckR_e hm
          obtain ⟨h18, hm⟩ := ckI_e hm
          refine zx_iald C k15 i16 h18 dX5_freeRetired_32 ?_
          refine zx_iload_n C dX5_freeRetired_33 1 rfl ?_
          refine zx_icmp_gt C 76 dX5_freeRetired_34 (by decide) (fun c19 => ?_) (fun c19 => ?_)
          · replace hm := ip_e hm c19
            exact zx_lv [0, 1, 2] [(0, .ref (x0)), (1, .int (x1)), (2, .int (x2))] rfl (j_X5_freeRetired_76 C htab hin hrc3   hm)
          · replace hm := in_e hm c19
            refine zx_aload_n C dX5_freeRetired_37 0 rfl ?_
            obtain ⟨a20, h21, hm⟩ := osm_e hm
            refine zx_get (j := 1) C tC_5 k1 i2 ⟨by decide, Or.inl W_1_97⟩ dX5_freeRetired_38 (.ref a20) (rf_s h21) ?_
            refine zx_iload_n C dX5_freeRetired_41 2 rfl ?_
            refine zx_iconst (v := 0) C dX5_freeRetired_42 (by decide) ?_
            obtain ⟨n24, k22, i23, hm⟩ := ckR_e hm
            obtain ⟨h25, hm⟩ := ckI_e hm
            refine zx_iast C k22 i23 h25 dX5_freeRetired_43 ?_
            refine zx_aload_n C dX5_freeRetired_44 0 rfl ?_
            refine zx_dup C dX5_freeRetired_45 rfl ?_
            refine zx_get (j := 10) C tC_5 k1 i2 ⟨by decide, Or.inl W_1_110⟩ dX5_freeRetired_46 (.int (tI (sI (σ) (a20) ((x2).toNatClampNeg) (0)) (x0) 10)) rfl ?_
            refine zx_iconst (v := 1) C dX5_freeRetired_49 (by decide) ?_
            refine zx_isub C dX5_freeRetired_50 ?_
            refine zx_put (j := 10) (ρ := sI (sI (σ) (a20) ((x2).toNatClampNeg) (0)) (x0) 10 ((tI (sI (σ) (a20) ((x2).toNatClampNeg) (0)) (x0) 10) - (1))) C tC_5 k1 i2 ⟨by decide, Or.inl W_1_110⟩ rfl rfl rfl (sI_ok (fun _ => rfl)) dX5_freeRetired_51 ?_
            refine zx_aload_n C dX5_freeRetired_54 0 rfl ?_
            refine zx_dup C dX5_freeRetired_55 rfl ?_
            refine zx_get (j := 9) C tC_5 k1 i2 ⟨by decide, Or.inl W_1_107⟩ dX5_freeRetired_56 (.int (tI (sI (sI (σ) (a20) ((x2).toNatClampNeg) (0)) (x0) 10 ((tI (sI (σ) (a20) ((x2).toNatClampNeg) (0)) (x0) 10) - (1))) (x0) 9)) rfl ?_
            refine zx_iconst (v := 1) C dX5_freeRetired_59 (by decide) ?_
            refine zx_iadd C dX5_freeRetired_60 ?_
            refine zx_put (j := 9) (ρ := sI (sI (sI (σ) (a20) ((x2).toNatClampNeg) (0)) (x0) 10 ((tI (sI (σ) (a20) ((x2).toNatClampNeg) (0)) (x0) 10) - (1))) (x0) 9 ((tI (sI (sI (σ) (a20) ((x2).toNatClampNeg) (0)) (x0) 10 ((tI (sI (σ) (a20) ((x2).toNatClampNeg) (0)) (x0) 10) - (1))) (x0) 9) + (1))) C tC_5 k1 i2 ⟨by decide, Or.inl W_1_107⟩ rfl rfl rfl (sI_ok (fun _ => rfl)) dX5_freeRetired_61 ?_
            refine zx_aload_n C dX5_freeRetired_64 0 rfl ?_
            refine zx_aload_n C dX5_freeRetired_65 0 rfl ?_
            refine zx_get (j := 14) C tC_5 k1 i2 ⟨by decide, Or.inl W_1_117⟩ dX5_freeRetired_66 (.int (tI (sI (sI (sI (σ) (a20) ((x2).toNatClampNeg) (0)) (x0) 10 ((tI (sI (σ) (a20) ((x2).toNatClampNeg) (0)) (x0) 10) - (1))) (x0) 9 ((tI (sI (sI (σ) (a20) ((x2).toNatClampNeg) (0)) (x0) 10 ((tI (sI (σ) (a20) ((x2).toNatClampNeg) (0)) (x0) 10) - (1))) (x0) 9) + (1))) (x0) 14)) rfl ?_
            refine zx_iload_n C dX5_freeRetired_69 2 rfl ?_
            refine zx_min C W_2_127 W_2_106 W_1_10 W_2_107 (by decide) (by decide) (Nat.le_of_ble_eq_true rfl) dX5_freeRetired_70 ?_
            refine zx_put (j := 14) (ρ := sI (sI (sI (sI (σ) (a20) ((x2).toNatClampNeg) (0)) (x0) 10 ((tI (sI (σ) (a20) ((x2).toNatClampNeg) (0)) (x0) 10) - (1))) (x0) 9 ((tI (sI (sI (σ) (a20) ((x2).toNatClampNeg) (0)) (x0) 10 ((tI (sI (σ) (a20) ((x2).toNatClampNeg) (0)) (x0) 10) - (1))) (x0) 9) + (1))) (x0) 14 ((if (x2) < (tI (sI (sI (sI (σ) (a20) ((x2).toNatClampNeg) (0)) (x0) 10 ((tI (sI (σ) (a20) ((x2).toNatClampNeg) (0)) (x0) 10) - (1))) (x0) 9 ((tI (sI (sI (σ) (a20) ((x2).toNatClampNeg) (0)) (x0) 10 ((tI (sI (σ) (a20) ((x2).toNatClampNeg) (0)) (x0) 10) - (1))) (x0) 9) + (1))) (x0) 14) then (x2) else (tI (sI (sI (sI (σ) (a20) ((x2).toNatClampNeg) (0)) (x0) 10 ((tI (sI (σ) (a20) ((x2).toNatClampNeg) (0)) (x0) 10) - (1))) (x0) 9 ((tI (sI (sI (σ) (a20) ((x2).toNatClampNeg) (0)) (x0) 10 ((tI (sI (σ) (a20) ((x2).toNatClampNeg) (0)) (x0) 10) - (1))) (x0) 9) + (1))) (x0) 14) : Int32))) C tC_5 k1 i2 ⟨by decide, Or.inl W_1_117⟩ rfl rfl rfl (sI_ok (fun _ => rfl)) dX5_freeRetired_73 ?_
            exact zx_lv [0, 1, 2] [(0, .ref (x0)), (1, .int (x1)), (2, .int (x2))] rfl (j_X5_freeRetired_76 C htab hin hrc3   hm)
set_option maxRecDepth 100000 in
set_option maxHeartbeats 1000000 in
theorem c_X5_freeRetired {l : Launch} {D : va_G} {aC : Nat → ClassId} {b0 fu : Nat} {a0 : Nat} {p0 : Int32} {σ τ : tM} {v : Unit} (hm : m_X5_freeRetired b0 fu a0 p0 σ = some (v, τ)) : tMt l D aC b0 yX5_freeRetired (Cond.code yX5_freeRetired cX5_freeRetired 3 none) 1 21 [.ref (a0), .int (p0)] σ (.inl none) τ := by
  unfold m_X5_freeRetired at hm
  obtain ⟨hg, hm⟩ := grw_e hm
  refine tMt_of (n := 0) rfl (Nat.le_of_ble_eq_true rfl) hg ?_
  intro p e s m below meth c C htab hin
  refine zx_lv [0, 1] [(0, .ref (a0)), (1, .int (p0))] rfl ?_
  refine zx_bipush (v := 34) C dX5_freeRetired_0 (by decide) ?_
  refine zx_istore_n C [(2, .int (34)), (0, .ref (a0)), (1, .int (p0))] dX5_freeRetired_2 rfl (by decide) rfl ?_
  exact zx_lv [1, 2, 0] [(0, .ref (a0)), (1, .int (p0)), (2, .int (34))] rfl (l_X5_freeRetired_3 C htab hin  _ _ _ _ _ hm)
abbrev cX5_groupSize : ByteArray := prog_7_method_29_code
def yX5_groupSize : MethodName := ⟨"SyncTree$Space", "groupSize", "()I"⟩
theorem Y_X5_groupSize : tY yX5_groupSize cX5_groupSize 1 (some .int) 0 := ⟨W_3_95, W_1_3, ⟨by decide +kernel, by decide +kernel⟩, by decide +kernel⟩
theorem dX5_groupSize_0 : decode cX5_groupSize 0 = .ok (.aload_n 0, 1) := by decide +kernel
theorem dX5_groupSize_1 : decode cX5_groupSize 1 = .ok (.getfield 78, 3) := by decide +kernel
theorem dX5_groupSize_4 : decode cX5_groupSize 4 = .ok (.aload_n 0, 1) := by decide +kernel
theorem dX5_groupSize_5 : decode cX5_groupSize 5 = .ok (.getfield 78, 3) := by decide +kernel
theorem dX5_groupSize_8 : decode cX5_groupSize 8 = .ok (.aload_n 0, 1) := by decide +kernel
theorem dX5_groupSize_9 : decode cX5_groupSize 9 = .ok (.getfield 81, 3) := by decide +kernel
theorem dX5_groupSize_12 : decode cX5_groupSize 12 = .ok (.iadd, 1) := by decide +kernel
theorem dX5_groupSize_13 : decode cX5_groupSize 13 = .ok (.bipush 120, 2) := by decide +kernel
theorem dX5_groupSize_15 : decode cX5_groupSize 15 = .ok (.iadd, 1) := by decide +kernel
theorem dX5_groupSize_16 : decode cX5_groupSize 16 = .ok (.iconst 1, 1) := by decide +kernel
theorem dX5_groupSize_17 : decode cX5_groupSize 17 = .ok (.isub, 1) := by decide +kernel
theorem dX5_groupSize_18 : decode cX5_groupSize 18 = .ok (.bipush 120, 2) := by decide +kernel
theorem dX5_groupSize_20 : decode cX5_groupSize 20 = .ok (.idiv, 1) := by decide +kernel
theorem dX5_groupSize_21 : decode cX5_groupSize 21 = .ok (.iadd, 1) := by decide +kernel
theorem dX5_groupSize_22 : decode cX5_groupSize 22 = .ok (.ireturn, 1) := by decide +kernel
def m_X5_groupSize (b0 fu : Nat) (a0 : Nat) (σ : tM) : Option ((Int32) × tM) := grw σ (ckO b0 (σ) (a0) 5 (some ((tI (σ) (a0) 11) + (((((tI (σ) (a0) 11) + (tI (σ) (a0) 12)) + (120)) - (1)) / (120)), σ)))
set_option maxRecDepth 100000 in
set_option maxHeartbeats 1000000 in
theorem c_X5_groupSize {l : Launch} {D : va_G} {aC : Nat → ClassId} {b0 fu : Nat} {a0 : Nat} {σ τ : tM} {v : Int32} (hm : m_X5_groupSize b0 fu a0 σ = some (v, τ)) : tMt l D aC b0 yX5_groupSize (Cond.code yX5_groupSize cX5_groupSize 1 (some .int)) 0 0 [.ref (a0)] σ (.inl (some (.int v))) τ := by
  unfold m_X5_groupSize at hm
  obtain ⟨hg, hm⟩ := grw_e hm
  refine tMt_of (n := 0) rfl (Nat.le_of_ble_eq_true rfl) hg ?_
  intro p e s m below meth c C htab hin
  refine zx_lv [0] [(0, .ref (a0))] rfl ?_
  refine zx_aload_n C dX5_groupSize_0 0 rfl ?_
  obtain ⟨k1, i2, hm⟩ := ckO_e hm
  refine zx_get (j := 11) C tC_5 k1 i2 ⟨by decide, Or.inl W_1_111⟩ dX5_groupSize_1 (.int (tI (σ) (a0) 11)) rfl ?_
  refine zx_aload_n C dX5_groupSize_4 0 rfl ?_
  refine zx_get (j := 11) C tC_5 k1 i2 ⟨by decide, Or.inl W_1_111⟩ dX5_groupSize_5 (.int (tI (σ) (a0) 11)) rfl ?_
  refine zx_aload_n C dX5_groupSize_8 0 rfl ?_
  refine zx_get (j := 12) C tC_5 k1 i2 ⟨by decide, Or.inl W_1_113⟩ dX5_groupSize_9 (.int (tI (σ) (a0) 12)) rfl ?_
  refine zx_iadd C dX5_groupSize_12 ?_
  refine zx_bipush (v := 120) C dX5_groupSize_13 (by decide) ?_
  refine zx_iadd C dX5_groupSize_15 ?_
  refine zx_iconst (v := 1) C dX5_groupSize_16 (by decide) ?_
  refine zx_isub C dX5_groupSize_17 ?_
  refine zx_bipush (v := 120) C dX5_groupSize_18 (by decide) ?_
  refine zx_idiv C dX5_groupSize_20 (by decide) ?_
  refine zx_iadd C dX5_groupSize_21 ?_
  obtain ⟨rfl, rfl⟩ := ret_e hm
  exact zx_iret C rfl rfl rfl dX5_groupSize_22
abbrev cX6_init : ByteArray := prog_8_method_1_code
def yX6_init : MethodName := ⟨"SyncTree$Tape", "<init>", "()V"⟩
theorem Y_X6_init : tY yX6_init cX6_init 1 none 0 := ⟨W_2_40, W_1_8, ⟨by decide +kernel, by decide +kernel⟩, by decide +kernel⟩
theorem dX6_init_0 : decode cX6_init 0 = .ok (.aload_n 0, 1) := by decide +kernel
theorem dX6_init_1 : decode cX6_init 1 = .ok (.invokespecial 3, 3) := by decide +kernel
theorem dX6_init_4 : decode cX6_init 4 = .ok (.aload_n 0, 1) := by decide +kernel
theorem dX6_init_5 : decode cX6_init 5 = .ok (.sipush 4000, 3) := by decide +kernel
theorem dX6_init_8 : decode cX6_init 8 = .ok (.newarray .byte, 2) := by decide +kernel
theorem dX6_init_10 : decode cX6_init 10 = .ok (.putfield 11, 3) := by decide +kernel
theorem dX6_init_13 : decode cX6_init 13 = .ok (.return_, 1) := by decide +kernel
def m_X6_init (b0 fu : Nat) (a0 : Nat) (σ : tM) : Option ((Unit) × tM) := grw σ (ltb (sN (σ) (b0 + tn (σ)) (.inr (1, ((4000 : Int32)).toNatClampNeg)) (((4000 : Int32)).toNatClampNeg)) (fun ρ1 => ckO b0 (ρ1) (a0) 6 (some ((), sA (ρ1) (a0) 0 (some (b0 + tn (σ)))))))
set_option maxRecDepth 100000 in
set_option maxHeartbeats 1000000 in
theorem c_X6_init {l : Launch} {D : va_G} {aC : Nat → ClassId} {b0 fu : Nat} {a0 : Nat} {σ τ : tM} {v : Unit} (hm : m_X6_init b0 fu a0 σ = some (v, τ)) : tMt l D aC b0 yX6_init (Cond.code yX6_init cX6_init 1 none) 1 20 [.ref (a0)] σ (.inl none) τ := by
  unfold m_X6_init at hm
  obtain ⟨hg, hm⟩ := grw_e hm
  refine tMt_of (n := 0) rfl (Nat.le_of_ble_eq_true rfl) hg ?_
  intro p e s m below meth c C htab hin
  refine zx_lv [0] [(0, .ref (a0))] rfl ?_
  refine zx_aload_n C dX6_init_0 0 rfl ?_
  refine zx_obj C W_2_41 W_1_26 W_1_27 (by decide) (by decide) (Nat.le_of_ble_eq_true rfl) dX6_init_1 ?_
  refine zx_aload_n C dX6_init_4 0 rfl ?_
  refine zx_sipush (v := 4000) C dX6_init_5 (by decide) ?_
  refine zx_newB C W_1_156 (by decide) (by decide) dX6_init_8 ?_
  refine zx_mem (fun ρ1 hρ1 => ?_)
  replace hm := ltb_e hm hρ1
  obtain ⟨k2, i3, hm⟩ := ckO_e hm
  refine zx_putF (j := 0) (ρ := sA (ρ1) (a0) 0 (some (b0 + tn (σ)))) C hin tC_6 k2 i3 (by decide) W_2_42 rfl rfl rfl rfl (sA_ok (fun _ => rfl)) dX6_init_10 ?_
  obtain ⟨rfl, rfl⟩ := ret_e hm
  exact zx_vret C rfl rfl rfl dX6_init_13
abbrev cX6_hasSpace : ByteArray := prog_8_method_2_code
def yX6_hasSpace : MethodName := ⟨"SyncTree$Tape", "hasSpace", "()Z"⟩
theorem Y_X6_hasSpace : tY yX6_hasSpace cX6_hasSpace 1 (some .boolean) 0 := ⟨W_3_15, W_1_8, ⟨by decide +kernel, by decide +kernel⟩, by decide +kernel⟩
theorem dX6_hasSpace_0 : decode cX6_hasSpace 0 = .ok (.aload_n 0, 1) := by decide +kernel
theorem dX6_hasSpace_1 : decode cX6_hasSpace 1 = .ok (.getfield 15, 3) := by decide +kernel
theorem dX6_hasSpace_4 : decode cX6_hasSpace 4 = .ok (.bipush 20, 2) := by decide +kernel
theorem dX6_hasSpace_6 : decode cX6_hasSpace 6 = .ok (.iadd, 1) := by decide +kernel
theorem dX6_hasSpace_7 : decode cX6_hasSpace 7 = .ok (.sipush 4000, 3) := by decide +kernel
theorem dX6_hasSpace_10 : decode cX6_hasSpace 10 = .ok (.if_icmp .gt 7, 3) := by decide +kernel
theorem dX6_hasSpace_13 : decode cX6_hasSpace 13 = .ok (.iconst 1, 1) := by decide +kernel
theorem dX6_hasSpace_14 : decode cX6_hasSpace 14 = .ok (.goto 4, 3) := by decide +kernel
theorem dX6_hasSpace_17 : decode cX6_hasSpace 17 = .ok (.iconst 0, 1) := by decide +kernel
theorem dX6_hasSpace_18 : decode cX6_hasSpace 18 = .ok (.ireturn, 1) := by decide +kernel
def J_X6_hasSpace_18 (b0 fu : Nat)  (s0 : Int32) (σ : tM) : Option ((Int32) × tM) := ckZ (s0) (some (s0, σ))
def m_X6_hasSpace (b0 fu : Nat) (a0 : Nat) (σ : tM) : Option ((Int32) × tM) := grw σ (ckO b0 (σ) (a0) 6 (if (4000) < ((tI (σ) (a0) 1) + (20)) then J_X6_hasSpace_18 b0 fu   (0) (σ) else J_X6_hasSpace_18 b0 fu   (1) (σ)))
set_option maxRecDepth 100000 in
set_option maxHeartbeats 1000000 in
theorem j_X6_hasSpace_18 {p : Program} {l : Launch} {e : Env} {s : State} {m : MethodId} {args : Array Value} {below : List Frame} {meth : Method} {c : Code} {D : va_G} {aC : Nat → ClassId} {b0 fu : Nat} {σ0 τ : tM} {v : Int32}  (C : tCx p s m args meth c yX6_hasSpace.cls cX6_hasSpace 1 (some .boolean) D aC b0 σ0) (htab : ∀ x ∈ c.exceptionTable.toList, False) (hin : meth.name = yX6_hasSpace.name)  {s0 : Int32} {σ : tM} (hm : J_X6_hasSpace_18 b0 fu  s0 σ = some (v, τ)) : tX p l e s m args below meth c 1 0 0 D aC b0 σ0 (.inl (some (.int v))) τ 18 [] [.int (s0)] σ := by
  unfold J_X6_hasSpace_18 at hm
  obtain ⟨h4, hm⟩ := ckZ_e hm
  obtain ⟨rfl, rfl⟩ := ret_e hm
  exact zx_zret C rfl h4 rfl rfl dX6_hasSpace_18
set_option maxRecDepth 100000 in
set_option maxHeartbeats 1000000 in
theorem c_X6_hasSpace {l : Launch} {D : va_G} {aC : Nat → ClassId} {b0 fu : Nat} {a0 : Nat} {σ τ : tM} {v : Int32} (hm : m_X6_hasSpace b0 fu a0 σ = some (v, τ)) : tMt l D aC b0 yX6_hasSpace (Cond.code yX6_hasSpace cX6_hasSpace 1 (some .boolean)) 0 0 [.ref (a0)] σ (.inl (some (.int v))) τ := by
  unfold m_X6_hasSpace at hm
  obtain ⟨hg, hm⟩ := grw_e hm
  refine tMt_of (n := 0) rfl (Nat.le_of_ble_eq_true rfl) hg ?_
  intro p e s m below meth c C htab hin
  refine zx_lv [0] [(0, .ref (a0))] rfl ?_
  refine zx_aload_n C dX6_hasSpace_0 0 rfl ?_
  obtain ⟨k1, i2, hm⟩ := ckO_e hm
  refine zx_get (j := 1) C tC_6 k1 i2 ⟨by decide, Or.inl W_2_43⟩ dX6_hasSpace_1 (.int (tI (σ) (a0) 1)) rfl ?_
  refine zx_bipush (v := 20) C dX6_hasSpace_4 (by decide) ?_
  refine zx_iadd C dX6_hasSpace_6 ?_
  refine zx_sipush (v := 4000) C dX6_hasSpace_7 (by decide) ?_
  refine zx_icmp_gt C 17 dX6_hasSpace_10 (by decide) (fun c3 => ?_) (fun c3 => ?_)
  · replace hm := ip_e hm c3
    refine zx_iconst (v := 0) C dX6_hasSpace_17 (by decide) ?_
    exact zx_lv [] [] rfl (j_X6_hasSpace_18 C htab hin    hm)
  · replace hm := in_e hm c3
    refine zx_iconst (v := 1) C dX6_hasSpace_13 (by decide) ?_
    refine zx_goto C 18 dX6_hasSpace_14 (by decide) ?_
    exact zx_lv [] [] rfl (j_X6_hasSpace_18 C htab hin    hm)
