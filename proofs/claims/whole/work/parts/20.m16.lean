abbrev cX8_resize : ByteArray := prog_10_method_32_code
def yX8_resize : MethodName := ⟨"SyncTree$Tree", "resize", "(II)V"⟩
theorem Y_X8_resize : tY yX8_resize cX8_resize 6 none 2 := ⟨W_5_69, W_1_4, ⟨by decide +kernel, by decide +kernel⟩, by decide +kernel⟩
theorem dX8_resize_0 : decode cX8_resize 0 = .ok (.aload_n 0, 1) := by decide +kernel
theorem dX8_resize_1 : decode cX8_resize 1 = .ok (.iload_n 1, 1) := by decide +kernel
theorem dX8_resize_2 : decode cX8_resize 2 = .ok (.invokevirtual 53, 3) := by decide +kernel
theorem dX8_resize_5 : decode cX8_resize 5 = .ok (.istore_n 3, 1) := by decide +kernel
theorem dX8_resize_6 : decode cX8_resize 6 = .ok (.aload_n 0, 1) := by decide +kernel
theorem dX8_resize_7 : decode cX8_resize 7 = .ok (.iload_n 1, 1) := by decide +kernel
theorem dX8_resize_8 : decode cX8_resize 8 = .ok (.iload_n 2, 1) := by decide +kernel
theorem dX8_resize_9 : decode cX8_resize 9 = .ok (.invokevirtual 83, 3) := by decide +kernel
theorem dX8_resize_12 : decode cX8_resize 12 = .ok (.iload_n 2, 1) := by decide +kernel
theorem dX8_resize_13 : decode cX8_resize 13 = .ok (.iload_n 3, 1) := by decide +kernel
theorem dX8_resize_14 : decode cX8_resize 14 = .ok (.if_icmp .ne 4, 3) := by decide +kernel
theorem dX8_resize_17 : decode cX8_resize 17 = .ok (.return_, 1) := by decide +kernel
theorem dX8_resize_18 : decode cX8_resize 18 = .ok (.aload_n 0, 1) := by decide +kernel
theorem dX8_resize_19 : decode cX8_resize 19 = .ok (.iload_n 1, 1) := by decide +kernel
theorem dX8_resize_20 : decode cX8_resize 20 = .ok (.iconst 1, 1) := by decide +kernel
theorem dX8_resize_21 : decode cX8_resize 21 = .ok (.invokevirtual 63, 3) := by decide +kernel
theorem dX8_resize_24 : decode cX8_resize 24 = .ok (.aload_n 0, 1) := by decide +kernel
theorem dX8_resize_25 : decode cX8_resize 25 = .ok (.iload_n 1, 1) := by decide +kernel
theorem dX8_resize_26 : decode cX8_resize 26 = .ok (.iload_n 2, 1) := by decide +kernel
theorem dX8_resize_27 : decode cX8_resize 27 = .ok (.iload_n 3, 1) := by decide +kernel
theorem dX8_resize_28 : decode cX8_resize 28 = .ok (.invokestatic 73, 3) := by decide +kernel
theorem dX8_resize_31 : decode cX8_resize 31 = .ok (.invokevirtual 133, 3) := by decide +kernel
theorem dX8_resize_34 : decode cX8_resize 34 = .ok (.iload_n 2, 1) := by decide +kernel
theorem dX8_resize_35 : decode cX8_resize 35 = .ok (.sipush 256, 3) := by decide +kernel
theorem dX8_resize_38 : decode cX8_resize 38 = .ok (.iadd, 1) := by decide +kernel
theorem dX8_resize_39 : decode cX8_resize 39 = .ok (.iconst 1, 1) := by decide +kernel
theorem dX8_resize_40 : decode cX8_resize 40 = .ok (.isub, 1) := by decide +kernel
theorem dX8_resize_41 : decode cX8_resize 41 = .ok (.sipush 256, 3) := by decide +kernel
theorem dX8_resize_44 : decode cX8_resize 44 = .ok (.idiv, 1) := by decide +kernel
theorem dX8_resize_45 : decode cX8_resize 45 = .ok (.istore 4, 2) := by decide +kernel
theorem dX8_resize_47 : decode cX8_resize 47 = .ok (.iload_n 3, 1) := by decide +kernel
theorem dX8_resize_48 : decode cX8_resize 48 = .ok (.iconst 1, 1) := by decide +kernel
theorem dX8_resize_49 : decode cX8_resize 49 = .ok (.isub, 1) := by decide +kernel
theorem dX8_resize_50 : decode cX8_resize 50 = .ok (.sipush 256, 3) := by decide +kernel
theorem dX8_resize_53 : decode cX8_resize 53 = .ok (.idiv, 1) := by decide +kernel
theorem dX8_resize_54 : decode cX8_resize 54 = .ok (.istore 5, 2) := by decide +kernel
theorem dX8_resize_56 : decode cX8_resize 56 = .ok (.iload 5, 2) := by decide +kernel
theorem dX8_resize_58 : decode cX8_resize 58 = .ok (.iload 4, 2) := by decide +kernel
theorem dX8_resize_60 : decode cX8_resize 60 = .ok (.if_icmp .lt 16, 3) := by decide +kernel
theorem dX8_resize_63 : decode cX8_resize 63 = .ok (.aload_n 0, 1) := by decide +kernel
theorem dX8_resize_64 : decode cX8_resize 64 = .ok (.iload_n 1, 1) := by decide +kernel
theorem dX8_resize_65 : decode cX8_resize 65 = .ok (.iload 5, 2) := by decide +kernel
theorem dX8_resize_67 : decode cX8_resize 67 = .ok (.invokevirtual 136, 3) := by decide +kernel
theorem dX8_resize_70 : decode cX8_resize 70 = .ok (.iinc 5 (-1), 3) := by decide +kernel
theorem dX8_resize_73 : decode cX8_resize 73 = .ok (.goto (-17), 3) := by decide +kernel
theorem dX8_resize_76 : decode cX8_resize 76 = .ok (.return_, 1) := by decide +kernel
def L_X8_resize_56 (b0 fu : Nat)  : Nat → Nat → Int32 → Int32 → Int32 → tM → Option ((Unit) × tM)
  | 0, _, _, _, _, _ => none
  | n + 1, x0, x1, x4, x5, σ => ltb (L_X8_resize_56 b0 fu  n) (fun rc56 => if (x5) < (x4) then some ((), σ) else ckO b0 (σ) (x0) 8 (cll (m_X8_drop b0 fu (x0) (x1) (x5) (σ)) (fun v27 ρ28 => ltb ((x5) + Int32.ofInt (-1)) (fun y30 => rc56 (x0) (x1) (x4) (y30) (ρ28)))))
def m_X8_resize (b0 fu : Nat) (a0 : Nat) (p0 : Int32) (p1 : Int32) (σ : tM) : Option ((Unit) × tM) := grw σ (ckO b0 (σ) (a0) 8 (cll (m_X8_size b0 fu (a0) (p0) (σ)) (fun v3 ρ4 => ckO b0 (ρ4) (a0) 8 (cll (m_X8_setSize b0 fu (a0) (p0) (p1) (ρ4)) (fun v8 ρ9 => if (p1) = (v3) then some ((), ρ9) else ckO b0 (ρ9) (a0) 8 (cll (m_X8_noteChange b0 fu (a0) (p0) (1) (ρ9)) (fun v14 ρ15 => ckO b0 (ρ15) (a0) 8 (cll (m_X8_zeroBehind b0 fu (a0) (p0) ((if (v3) < (p1) then (v3) else (p1) : Int32)) (ρ15)) (fun v19 ρ20 => ltb (((((p1) + (256)) - (1)) / (256) : Int32)) (fun y22 => ltb ((((v3) - (1)) / (256) : Int32)) (fun y23 => L_X8_resize_56 b0 fu  (fu) (a0) (p0) (y22) (y23) (ρ20))))))))))))
set_option maxRecDepth 100000 in
set_option maxHeartbeats 1000000 in
theorem l_X8_resize_56 {p : Program} {l : Launch} {e : Env} {s : State} {m : MethodId} {args : Array Value} {below : List Frame} {meth : Method} {c : Code} {D : va_G} {aC : Nat → ClassId} {b0 fu : Nat} {σ0 τ : tM} {v : Unit}  (C : tCx p l s m args meth c yX8_resize.cls cX8_resize 6 none D aC b0 σ0) (htab : ∀ x ∈ c.exceptionTable.toList, False) (hin : meth.name = yX8_resize.name)  : ∀ (n : Nat) (x0 : Nat) (x1 : Int32) (x4 : Int32) (x5 : Int32) (σ : tM), L_X8_resize_56 b0 fu  n x0 x1 x4 x5 σ = some (v, τ) → tX p l e s m args below meth c 6 4 96 D aC b0 σ0 (.inl none) τ 56 [(0, .ref (x0)), (1, .int (x1)), (4, .int (x4)), (5, .int (x5))] [] σ := by
  intro n
  induction n with
  | zero => intro x0 x1 x4 x5 σ hm; unfold L_X8_resize_56 at hm; cases hm
  | succ n ih =>
    intro x0 x1 x4 x5 σ hm
    unfold L_X8_resize_56 at hm
    obtain ⟨rc56, hrc⟩ : ∃ z, z = L_X8_resize_56 b0 fu  n := ⟨_, rfl⟩
    replace hm := ltb_e hm hrc
    rw [← hrc] at ih
    have hrc56 := ih
    clear ih hrc
    refine zx_iload C dX8_resize_56 3 rfl ?_
    refine zx_iload C dX8_resize_58 2 rfl ?_
    refine zx_icmp_lt C 76 dX8_resize_60 (by decide) (fun c24 => ?_) (fun c24 => ?_)
    · replace hm := ip_e hm c24
      obtain ⟨rfl, rfl⟩ := ret_e hm
      exact zx_vret C rfl rfl rfl dX8_resize_76
    · replace hm := in_e hm c24
      refine zx_aload_n C dX8_resize_63 0 rfl ?_
      refine zx_iload_n C dX8_resize_64 1 rfl ?_
      refine zx_iload C dX8_resize_65 3 rfl ?_
      obtain ⟨k25, i26, hm⟩ := ckO_e hm
      obtain ⟨v27, ρ28, h29, hm⟩ := cll_e hm
      refine zx_callV (σ := σ) C [.int (x1), .int (x5)] tC_8 k25 i26 Y_X8_drop W_5_42 W_5_44 Wp_33 (c_X8_drop h29) (by decide) (by decide) rfl (Nat.le_of_ble_eq_true rfl) dX8_resize_67 rfl ?_
      obtain ⟨y30, hy30⟩ : ∃ z : Int32, z = (x5) + Int32.ofInt (-1) := ⟨_, rfl⟩
      replace hm := ltb_e hm hy30
      refine zx_iinc C [(5, .int (y30)), (0, .ref (x0)), (1, .int (x1)), (4, .int (x4))] dX8_resize_70 3 rfl hy30.symm (by decide) rfl ?_
      refine zx_goto C 56 dX8_resize_73 (by decide) ?_
      exact zx_lv [1, 2, 3, 0] [(0, .ref (x0)), (1, .int (x1)), (4, .int (x4)), (5, .int (y30))] rfl (hrc56 _ _ _ _ _ hm)
set_option maxRecDepth 100000 in
set_option maxHeartbeats 1000000 in
theorem c_X8_resize {l : Launch} {D : va_G} {aC : Nat → ClassId} {b0 fu : Nat} {a0 : Nat} {p0 : Int32} {p1 : Int32} {σ τ : tM} {v : Unit} (hm : m_X8_resize b0 fu a0 p0 p1 σ = some (v, τ)) : tMt l D aC b0 yX8_resize (Cond.code yX8_resize cX8_resize 6 none) 4 96 [.ref (a0), .int (p0), .int (p1)] σ (.inl none) τ := by
  unfold m_X8_resize at hm
  obtain ⟨hg, hm⟩ := grw_e hm
  refine tMt_of (n := 0) rfl (Nat.le_of_ble_eq_true rfl) hg ?_
  intro p e s m below meth c C htab hin
  refine zx_lv [0, 1, 2] [(0, .ref (a0)), (1, .int (p0)), (2, .int (p1))] rfl ?_
  refine zx_aload_n C dX8_resize_0 0 rfl ?_
  refine zx_iload_n C dX8_resize_1 1 rfl ?_
  obtain ⟨k1, i2, hm⟩ := ckO_e hm
  obtain ⟨v3, ρ4, h5, hm⟩ := cll_e hm
  refine zx_callV (σ := σ) C [.int (p0)] tC_8 k1 i2 Y_X8_size W_4_224 W_4_133 W_4_134 (c_X8_size h5) (by decide) (by decide) rfl (Nat.le_of_ble_eq_true rfl) dX8_resize_2 rfl ?_
  refine zx_istore_n C [(3, .int (v3)), (0, .ref (a0)), (1, .int (p0)), (2, .int (p1))] dX8_resize_5 rfl (by decide) rfl ?_
  refine zx_aload_n C dX8_resize_6 1 rfl ?_
  refine zx_iload_n C dX8_resize_7 2 rfl ?_
  refine zx_iload_n C dX8_resize_8 3 rfl ?_
  obtain ⟨k6, i7, hm⟩ := ckO_e hm
  obtain ⟨v8, ρ9, h10, hm⟩ := cll_e hm
  refine zx_callV (σ := ρ4) C [.int (p0), .int (p1)] tC_8 k6 i7 Y_X8_setSize W_4_186 W_4_188 Wp_29 (c_X8_setSize h10) (by decide) (by decide) rfl (Nat.le_of_ble_eq_true rfl) dX8_resize_9 rfl ?_
  refine zx_iload_n C dX8_resize_12 3 rfl ?_
  refine zx_iload_n C dX8_resize_13 0 rfl ?_
  refine zx_icmp_ne C 18 dX8_resize_14 (by decide) (fun c11 => ?_) (fun c11 => ?_)
  · replace hm := in_e hm c11
    refine zx_aload_n C dX8_resize_18 1 rfl ?_
    refine zx_iload_n C dX8_resize_19 2 rfl ?_
    refine zx_iconst (v := 1) C dX8_resize_20 (by decide) ?_
    obtain ⟨k12, i13, hm⟩ := ckO_e hm
    obtain ⟨v14, ρ15, h16, hm⟩ := cll_e hm
    refine zx_callV (σ := ρ9) C [.int (p0), .int (1)] tC_8 k12 i13 Y_X8_noteChange W_2_160 W_2_162 Wp_7 (c_X8_noteChange h16) (by decide) (by decide) rfl (Nat.le_of_ble_eq_true rfl) dX8_resize_21 rfl ?_
    refine zx_aload_n C dX8_resize_24 1 rfl ?_
    refine zx_iload_n C dX8_resize_25 2 rfl ?_
    refine zx_iload_n C dX8_resize_26 3 rfl ?_
    refine zx_iload_n C dX8_resize_27 0 rfl ?_
    refine zx_min C W_4_179 W_2_106 W_1_10 W_2_107 (by decide) (by decide) (Nat.le_of_ble_eq_true rfl) dX8_resize_28 ?_
    obtain ⟨k17, i18, hm⟩ := ckO_e hm
    obtain ⟨v19, ρ20, h21, hm⟩ := cll_e hm
    refine zx_callV (σ := ρ15) C [.int (p0), .int ((if (v3) < (p1) then (v3) else (p1) : Int32))] tC_8 k17 i18 Y_X8_zeroBehind W_5_70 W_5_72 Wp_37 (c_X8_zeroBehind h21) (by decide) (by decide) rfl (Nat.le_of_ble_eq_true rfl) dX8_resize_31 rfl ?_
    refine zx_iload_n C dX8_resize_34 3 rfl ?_
    refine zx_sipush (v := 256) C dX8_resize_35 (by decide) ?_
    refine zx_iadd C dX8_resize_38 ?_
    refine zx_iconst (v := 1) C dX8_resize_39 (by decide) ?_
    refine zx_isub C dX8_resize_40 ?_
    refine zx_sipush (v := 256) C dX8_resize_41 (by decide) ?_
    refine zx_idiv C dX8_resize_44 (by decide) ?_
    refine zx_topi (fun y22 hy22 => ?_)
    replace hm := ltb_e hm hy22
    refine zx_istore C [(4, .int (y22)), (3, .int (v3)), (0, .ref (a0)), (1, .int (p0)), (2, .int (p1))] dX8_resize_45 (by decide) rfl ?_
    refine zx_iload_n C dX8_resize_47 1 rfl ?_
    refine zx_iconst (v := 1) C dX8_resize_48 (by decide) ?_
    refine zx_isub C dX8_resize_49 ?_
    refine zx_sipush (v := 256) C dX8_resize_50 (by decide) ?_
    refine zx_idiv C dX8_resize_53 (by decide) ?_
    refine zx_topi (fun y23 hy23 => ?_)
    replace hm := ltb_e hm hy23
    refine zx_istore C [(5, .int (y23)), (4, .int (y22)), (3, .int (v3)), (0, .ref (a0)), (1, .int (p0)), (2, .int (p1))] dX8_resize_54 (by decide) rfl ?_
    exact zx_lv [3, 4, 1, 0] [(0, .ref (a0)), (1, .int (p0)), (4, .int (y22)), (5, .int (y23))] rfl (l_X8_resize_56 C htab hin  _ _ _ _ _ _ hm)
  · replace hm := ip_e hm c11
    obtain ⟨rfl, rfl⟩ := ret_e hm
    exact zx_vret C rfl rfl rfl dX8_resize_17
abbrev cX8_describe : ByteArray := prog_10_method_38_code
def yX8_describe : MethodName := ⟨"SyncTree$Tree", "describe", "(II)I"⟩
theorem Y_X8_describe : tY yX8_describe cX8_describe 3 (some .int) 2 := ⟨W_5_219, W_1_4, ⟨by decide +kernel, by decide +kernel⟩, by decide +kernel⟩
theorem dX8_describe_0 : decode cX8_describe 0 = .ok (.iload_n 2, 1) := by decide +kernel
theorem dX8_describe_1 : decode cX8_describe 1 = .ok (.tableswitch 71 0 5 #[39, 45, 51, 57, 59, 65], 39) := by decide +kernel
theorem dX8_describe_40 : decode cX8_describe 40 = .ok (.aload_n 0, 1) := by decide +kernel
theorem dX8_describe_41 : decode cX8_describe 41 = .ok (.iload_n 1, 1) := by decide +kernel
theorem dX8_describe_42 : decode cX8_describe 42 = .ok (.invokevirtual 40, 3) := by decide +kernel
theorem dX8_describe_45 : decode cX8_describe 45 = .ok (.ireturn, 1) := by decide +kernel
theorem dX8_describe_46 : decode cX8_describe 46 = .ok (.aload_n 0, 1) := by decide +kernel
theorem dX8_describe_47 : decode cX8_describe 47 = .ok (.iload_n 1, 1) := by decide +kernel
theorem dX8_describe_48 : decode cX8_describe 48 = .ok (.invokevirtual 53, 3) := by decide +kernel
theorem dX8_describe_51 : decode cX8_describe 51 = .ok (.ireturn, 1) := by decide +kernel
theorem dX8_describe_52 : decode cX8_describe 52 = .ok (.aload_n 0, 1) := by decide +kernel
theorem dX8_describe_53 : decode cX8_describe 53 = .ok (.iload_n 1, 1) := by decide +kernel
theorem dX8_describe_54 : decode cX8_describe 54 = .ok (.invokevirtual 60, 3) := by decide +kernel
theorem dX8_describe_57 : decode cX8_describe 57 = .ok (.ireturn, 1) := by decide +kernel
theorem dX8_describe_58 : decode cX8_describe 58 = .ok (.iload_n 1, 1) := by decide +kernel
theorem dX8_describe_59 : decode cX8_describe 59 = .ok (.ireturn, 1) := by decide +kernel
theorem dX8_describe_60 : decode cX8_describe 60 = .ok (.aload_n 0, 1) := by decide +kernel
theorem dX8_describe_61 : decode cX8_describe 61 = .ok (.iload_n 1, 1) := by decide +kernel
theorem dX8_describe_62 : decode cX8_describe 62 = .ok (.invokevirtual 155, 3) := by decide +kernel
theorem dX8_describe_65 : decode cX8_describe 65 = .ok (.ireturn, 1) := by decide +kernel
theorem dX8_describe_66 : decode cX8_describe 66 = .ok (.aload_n 0, 1) := by decide +kernel
theorem dX8_describe_67 : decode cX8_describe 67 = .ok (.iload_n 1, 1) := by decide +kernel
theorem dX8_describe_68 : decode cX8_describe 68 = .ok (.invokevirtual 158, 3) := by decide +kernel
theorem dX8_describe_71 : decode cX8_describe 71 = .ok (.ireturn, 1) := by decide +kernel
theorem dX8_describe_72 : decode cX8_describe 72 = .ok (.aload_n 0, 1) := by decide +kernel
theorem dX8_describe_73 : decode cX8_describe 73 = .ok (.iload_n 1, 1) := by decide +kernel
theorem dX8_describe_74 : decode cX8_describe 74 = .ok (.invokevirtual 161, 3) := by decide +kernel
theorem dX8_describe_77 : decode cX8_describe 77 = .ok (.ireturn, 1) := by decide +kernel
def m_X8_describe (b0 fu : Nat) (a0 : Nat) (p0 : Int32) (p1 : Int32) (σ : tM) : Option ((Int32) × tM) := grw σ (if (p1) = (0) then ckO b0 (σ) (a0) 8 (cll (m_X8_kind b0 fu (a0) (p0) (σ)) (fun v3 ρ4 => some (v3, ρ4))) else if (p1) = (1) then ckO b0 (σ) (a0) 8 (cll (m_X8_size b0 fu (a0) (p0) (σ)) (fun v8 ρ9 => some (v8, ρ9))) else if (p1) = (2) then ckO b0 (σ) (a0) 8 (cll (m_X8_names b0 fu (a0) (p0) (σ)) (fun v13 ρ14 => some (v13, ρ14))) else if (p1) = (3) then some (p0, σ) else if (p1) = (4) then ckO b0 (σ) (a0) 8 (cll (m_X8_countBlocks b0 fu (a0) (p0) (σ)) (fun v18 ρ19 => some (v18, ρ19))) else if (p1) = (5) then ckO b0 (σ) (a0) 8 (cll (m_X8_countPointerBlocks b0 fu (a0) (p0) (σ)) (fun v23 ρ24 => some (v23, ρ24))) else ckO b0 (σ) (a0) 8 (cll (m_X8_countEntries b0 fu (a0) (p0) (σ)) (fun v28 ρ29 => some (v28, ρ29))))
set_option maxRecDepth 100000 in
set_option maxHeartbeats 1000000 in
theorem c_X8_describe {l : Launch} {D : va_G} {aC : Nat → ClassId} {b0 fu : Nat} {a0 : Nat} {p0 : Int32} {p1 : Int32} {σ τ : tM} {v : Int32} (hm : m_X8_describe b0 fu a0 p0 p1 σ = some (v, τ)) : tMt l D aC b0 yX8_describe (Cond.code yX8_describe cX8_describe 3 (some .int)) 4 93 [.ref (a0), .int (p0), .int (p1)] σ (.inl (some (.int v))) τ := by
  unfold m_X8_describe at hm
  obtain ⟨hg, hm⟩ := grw_e hm
  refine tMt_of (n := 0) rfl (Nat.le_of_ble_eq_true rfl) hg ?_
  intro p e s m below meth c C htab hin
  refine zx_lv [0, 1, 2] [(0, .ref (a0)), (1, .int (p0)), (2, .int (p1))] rfl ?_
  refine zx_iload_n C dX8_describe_0 2 rfl ?_
  rcases Classical.em ((p1) = (0)) with c1_0 | c1_0
  · replace hm := ip_e hm c1_0
    refine zx_tabIn (off := 39) C 40 dX8_describe_1 (by rw [c1_0]; decide) (by rw [c1_0]; decide) (by rw [c1_0]; decide) (by decide) ?_
    refine zx_aload_n C dX8_describe_40 0 rfl ?_
    refine zx_iload_n C dX8_describe_41 1 rfl ?_
    obtain ⟨k1, i2, hm⟩ := ckO_e hm
    obtain ⟨v3, ρ4, h5, hm⟩ := cll_e hm
    refine zx_callV (σ := σ) C [.int (p0)] tC_8 k1 i2 Y_X8_kind W_3_79 W_3_80 W_3_81 (c_X8_kind h5) (by decide) (by decide) rfl (Nat.le_of_ble_eq_true rfl) dX8_describe_42 rfl ?_
    obtain ⟨rfl, rfl⟩ := ret_e hm
    exact zx_iret C rfl rfl rfl dX8_describe_45
  · replace hm := in_e hm c1_0
    rcases Classical.em ((p1) = (1)) with c1_1 | c1_1
    · replace hm := ip_e hm c1_1
      refine zx_tabIn (off := 45) C 46 dX8_describe_1 (by rw [c1_1]; decide) (by rw [c1_1]; decide) (by rw [c1_1]; decide) (by decide) ?_
      refine zx_aload_n C dX8_describe_46 0 rfl ?_
      refine zx_iload_n C dX8_describe_47 1 rfl ?_
      obtain ⟨k6, i7, hm⟩ := ckO_e hm
      obtain ⟨v8, ρ9, h10, hm⟩ := cll_e hm
      refine zx_callV (σ := σ) C [.int (p0)] tC_8 k6 i7 Y_X8_size W_4_224 W_4_133 W_4_134 (c_X8_size h10) (by decide) (by decide) rfl (Nat.le_of_ble_eq_true rfl) dX8_describe_48 rfl ?_
      obtain ⟨rfl, rfl⟩ := ret_e hm
      exact zx_iret C rfl rfl rfl dX8_describe_51
    · replace hm := in_e hm c1_1
      rcases Classical.em ((p1) = (2)) with c1_2 | c1_2
      · replace hm := ip_e hm c1_2
        refine zx_tabIn (off := 51) C 52 dX8_describe_1 (by rw [c1_2]; decide) (by rw [c1_2]; decide) (by rw [c1_2]; decide) (by decide) ?_
        refine zx_aload_n C dX8_describe_52 0 rfl ?_
        refine zx_iload_n C dX8_describe_53 1 rfl ?_
        obtain ⟨k11, i12, hm⟩ := ckO_e hm
        obtain ⟨v13, ρ14, h15, hm⟩ := cll_e hm
        refine zx_callV (σ := σ) C [.int (p0)] tC_8 k11 i12 Y_X8_names W_4_190 W_4_191 W_4_192 (c_X8_names h15) (by decide) (by decide) rfl (Nat.le_of_ble_eq_true rfl) dX8_describe_54 rfl ?_
        obtain ⟨rfl, rfl⟩ := ret_e hm
        exact zx_iret C rfl rfl rfl dX8_describe_57
      · replace hm := in_e hm c1_2
        rcases Classical.em ((p1) = (3)) with c1_3 | c1_3
        · replace hm := ip_e hm c1_3
          refine zx_tabIn (off := 57) C 58 dX8_describe_1 (by rw [c1_3]; decide) (by rw [c1_3]; decide) (by rw [c1_3]; decide) (by decide) ?_
          refine zx_iload_n C dX8_describe_58 1 rfl ?_
          obtain ⟨rfl, rfl⟩ := ret_e hm
          exact zx_iret C rfl rfl rfl dX8_describe_59
        · replace hm := in_e hm c1_3
          rcases Classical.em ((p1) = (4)) with c1_4 | c1_4
          · replace hm := ip_e hm c1_4
            refine zx_tabIn (off := 59) C 60 dX8_describe_1 (by rw [c1_4]; decide) (by rw [c1_4]; decide) (by rw [c1_4]; decide) (by decide) ?_
            refine zx_aload_n C dX8_describe_60 0 rfl ?_
            refine zx_iload_n C dX8_describe_61 1 rfl ?_
            obtain ⟨k16, i17, hm⟩ := ckO_e hm
            obtain ⟨v18, ρ19, h20, hm⟩ := cll_e hm
            refine zx_callV (σ := σ) C [.int (p0)] tC_8 k16 i17 Y_X8_countBlocks W_5_220 W_5_222 Wp_43 (c_X8_countBlocks h20) (by decide) (by decide) rfl (Nat.le_of_ble_eq_true rfl) dX8_describe_62 rfl ?_
            obtain ⟨rfl, rfl⟩ := ret_e hm
            exact zx_iret C rfl rfl rfl dX8_describe_65
          · replace hm := in_e hm c1_4
            rcases Classical.em ((p1) = (5)) with c1_5 | c1_5
            · replace hm := ip_e hm c1_5
              refine zx_tabIn (off := 65) C 66 dX8_describe_1 (by rw [c1_5]; decide) (by rw [c1_5]; decide) (by rw [c1_5]; decide) (by decide) ?_
              refine zx_aload_n C dX8_describe_66 0 rfl ?_
              refine zx_iload_n C dX8_describe_67 1 rfl ?_
              obtain ⟨k21, i22, hm⟩ := ckO_e hm
              obtain ⟨v23, ρ24, h25, hm⟩ := cll_e hm
              refine zx_callV (σ := σ) C [.int (p0)] tC_8 k21 i22 Y_X8_countPointerBlocks W_5_224 W_5_226 Wp_44 (c_X8_countPointerBlocks h25) (by decide) (by decide) rfl (Nat.le_of_ble_eq_true rfl) dX8_describe_68 rfl ?_
              obtain ⟨rfl, rfl⟩ := ret_e hm
              exact zx_iret C rfl rfl rfl dX8_describe_71
            · replace hm := in_e hm c1_5
              have g1_0 : (p1).toInt ≠ 0 := fun e9 => c1_0 (Int32.toInt_inj.mp (e9.trans (by decide)))
              have g1_1 : (p1).toInt ≠ 1 := fun e9 => c1_1 (Int32.toInt_inj.mp (e9.trans (by decide)))
              have g1_2 : (p1).toInt ≠ 2 := fun e9 => c1_2 (Int32.toInt_inj.mp (e9.trans (by decide)))
              have g1_3 : (p1).toInt ≠ 3 := fun e9 => c1_3 (Int32.toInt_inj.mp (e9.trans (by decide)))
              have g1_4 : (p1).toInt ≠ 4 := fun e9 => c1_4 (Int32.toInt_inj.mp (e9.trans (by decide)))
              have g1_5 : (p1).toInt ≠ 5 := fun e9 => c1_5 (Int32.toInt_inj.mp (e9.trans (by decide)))
              refine zx_tabOut C 72 dX8_describe_1 (by omega) (by decide) ?_
              refine zx_aload_n C dX8_describe_72 0 rfl ?_
              refine zx_iload_n C dX8_describe_73 1 rfl ?_
              obtain ⟨k26, i27, hm⟩ := ckO_e hm
              obtain ⟨v28, ρ29, h30, hm⟩ := cll_e hm
              refine zx_callV (σ := σ) C [.int (p0)] tC_8 k26 i27 Y_X8_countEntries W_5_229 W_5_96 W_5_97 (c_X8_countEntries h30) (by decide) (by decide) rfl (Nat.le_of_ble_eq_true rfl) dX8_describe_74 rfl ?_
              obtain ⟨rfl, rfl⟩ := ret_e hm
              exact zx_iret C rfl rfl rfl dX8_describe_77
abbrev cX8_removeEntry : ByteArray := prog_10_method_52_code
def yX8_removeEntry : MethodName := ⟨"SyncTree$Tree", "removeEntry", "(II)V"⟩
theorem Y_X8_removeEntry : tY yX8_removeEntry cX8_removeEntry 5 none 2 := ⟨W_5_36, W_1_4, ⟨by decide +kernel, by decide +kernel⟩, by decide +kernel⟩
theorem dX8_removeEntry_0 : decode cX8_removeEntry 0 = .ok (.aload_n 0, 1) := by decide +kernel
theorem dX8_removeEntry_1 : decode cX8_removeEntry 1 = .ok (.iload_n 1, 1) := by decide +kernel
theorem dX8_removeEntry_2 : decode cX8_removeEntry 2 = .ok (.iload_n 2, 1) := by decide +kernel
theorem dX8_removeEntry_3 : decode cX8_removeEntry 3 = .ok (.bipush 8, 2) := by decide +kernel
theorem dX8_removeEntry_5 : decode cX8_removeEntry 5 = .ok (.idiv, 1) := by decide +kernel
theorem dX8_removeEntry_6 : decode cX8_removeEntry 6 = .ok (.invokevirtual 112, 3) := by decide +kernel
theorem dX8_removeEntry_9 : decode cX8_removeEntry 9 = .ok (.invokestatic 104, 3) := by decide +kernel
theorem dX8_removeEntry_12 : decode cX8_removeEntry 12 = .ok (.istore_n 3, 1) := by decide +kernel
theorem dX8_removeEntry_13 : decode cX8_removeEntry 13 = .ok (.iconst 0, 1) := by decide +kernel
theorem dX8_removeEntry_14 : decode cX8_removeEntry 14 = .ok (.istore 4, 2) := by decide +kernel
theorem dX8_removeEntry_16 : decode cX8_removeEntry 16 = .ok (.iload 4, 2) := by decide +kernel
theorem dX8_removeEntry_18 : decode cX8_removeEntry 18 = .ok (.iconst 4, 1) := by decide +kernel
theorem dX8_removeEntry_19 : decode cX8_removeEntry 19 = .ok (.if_icmp .ge 27, 3) := by decide +kernel
theorem dX8_removeEntry_22 : decode cX8_removeEntry 22 = .ok (.aload_n 0, 1) := by decide +kernel
theorem dX8_removeEntry_23 : decode cX8_removeEntry 23 = .ok (.getfield 15, 3) := by decide +kernel
theorem dX8_removeEntry_26 : decode cX8_removeEntry 26 = .ok (.iload_n 3, 1) := by decide +kernel
theorem dX8_removeEntry_27 : decode cX8_removeEntry 27 = .ok (.iload_n 2, 1) := by decide +kernel
theorem dX8_removeEntry_28 : decode cX8_removeEntry 28 = .ok (.bipush 8, 2) := by decide +kernel
theorem dX8_removeEntry_30 : decode cX8_removeEntry 30 = .ok (.irem, 1) := by decide +kernel
theorem dX8_removeEntry_31 : decode cX8_removeEntry 31 = .ok (.iconst 4, 1) := by decide +kernel
theorem dX8_removeEntry_32 : decode cX8_removeEntry 32 = .ok (.imul, 1) := by decide +kernel
theorem dX8_removeEntry_33 : decode cX8_removeEntry 33 = .ok (.iload 4, 2) := by decide +kernel
theorem dX8_removeEntry_35 : decode cX8_removeEntry 35 = .ok (.iadd, 1) := by decide +kernel
theorem dX8_removeEntry_36 : decode cX8_removeEntry 36 = .ok (.lconst 0, 1) := by decide +kernel
theorem dX8_removeEntry_37 : decode cX8_removeEntry 37 = .ok (.invokevirtual 108, 3) := by decide +kernel
theorem dX8_removeEntry_40 : decode cX8_removeEntry 40 = .ok (.iinc 4 1, 3) := by decide +kernel
theorem dX8_removeEntry_43 : decode cX8_removeEntry 43 = .ok (.goto (-27), 3) := by decide +kernel
theorem dX8_removeEntry_46 : decode cX8_removeEntry 46 = .ok (.aload_n 0, 1) := by decide +kernel
theorem dX8_removeEntry_47 : decode cX8_removeEntry 47 = .ok (.iload_n 1, 1) := by decide +kernel
theorem dX8_removeEntry_48 : decode cX8_removeEntry 48 = .ok (.invokevirtual 53, 3) := by decide +kernel
theorem dX8_removeEntry_51 : decode cX8_removeEntry 51 = .ok (.sipush 256, 3) := by decide +kernel
theorem dX8_removeEntry_54 : decode cX8_removeEntry 54 = .ok (.idiv, 1) := by decide +kernel
theorem dX8_removeEntry_55 : decode cX8_removeEntry 55 = .ok (.iconst 1, 1) := by decide +kernel
theorem dX8_removeEntry_56 : decode cX8_removeEntry 56 = .ok (.isub, 1) := by decide +kernel
theorem dX8_removeEntry_57 : decode cX8_removeEntry 57 = .ok (.istore 4, 2) := by decide +kernel
theorem dX8_removeEntry_59 : decode cX8_removeEntry 59 = .ok (.iload 4, 2) := by decide +kernel
theorem dX8_removeEntry_61 : decode cX8_removeEntry 61 = .ok (.ifCond .lt 49, 3) := by decide +kernel
theorem dX8_removeEntry_64 : decode cX8_removeEntry 64 = .ok (.aload_n 0, 1) := by decide +kernel
theorem dX8_removeEntry_65 : decode cX8_removeEntry 65 = .ok (.getfield 15, 3) := by decide +kernel
theorem dX8_removeEntry_68 : decode cX8_removeEntry 68 = .ok (.aload_n 0, 1) := by decide +kernel
theorem dX8_removeEntry_69 : decode cX8_removeEntry 69 = .ok (.iload_n 1, 1) := by decide +kernel
theorem dX8_removeEntry_70 : decode cX8_removeEntry 70 = .ok (.iload 4, 2) := by decide +kernel
theorem dX8_removeEntry_72 : decode cX8_removeEntry 72 = .ok (.invokevirtual 112, 3) := by decide +kernel
theorem dX8_removeEntry_75 : decode cX8_removeEntry 75 = .ok (.invokestatic 104, 3) := by decide +kernel
theorem dX8_removeEntry_78 : decode cX8_removeEntry 78 = .ok (.iconst 0, 1) := by decide +kernel
theorem dX8_removeEntry_79 : decode cX8_removeEntry 79 = .ok (.invokevirtual 126, 3) := by decide +kernel
theorem dX8_removeEntry_82 : decode cX8_removeEntry 82 = .ok (.ifCond .ne 4, 3) := by decide +kernel
theorem dX8_removeEntry_85 : decode cX8_removeEntry 85 = .ok (.return_, 1) := by decide +kernel
theorem dX8_removeEntry_86 : decode cX8_removeEntry 86 = .ok (.aload_n 0, 1) := by decide +kernel
theorem dX8_removeEntry_87 : decode cX8_removeEntry 87 = .ok (.iload_n 1, 1) := by decide +kernel
theorem dX8_removeEntry_88 : decode cX8_removeEntry 88 = .ok (.iload 4, 2) := by decide +kernel
theorem dX8_removeEntry_90 : decode cX8_removeEntry 90 = .ok (.invokevirtual 136, 3) := by decide +kernel
theorem dX8_removeEntry_93 : decode cX8_removeEntry 93 = .ok (.aload_n 0, 1) := by decide +kernel
theorem dX8_removeEntry_94 : decode cX8_removeEntry 94 = .ok (.iload_n 1, 1) := by decide +kernel
theorem dX8_removeEntry_95 : decode cX8_removeEntry 95 = .ok (.iload 4, 2) := by decide +kernel
theorem dX8_removeEntry_97 : decode cX8_removeEntry 97 = .ok (.sipush 256, 3) := by decide +kernel
theorem dX8_removeEntry_100 : decode cX8_removeEntry 100 = .ok (.imul, 1) := by decide +kernel
theorem dX8_removeEntry_101 : decode cX8_removeEntry 101 = .ok (.invokevirtual 83, 3) := by decide +kernel
theorem dX8_removeEntry_104 : decode cX8_removeEntry 104 = .ok (.iinc 4 (-1), 3) := by decide +kernel
theorem dX8_removeEntry_107 : decode cX8_removeEntry 107 = .ok (.goto (-48), 3) := by decide +kernel
theorem dX8_removeEntry_110 : decode cX8_removeEntry 110 = .ok (.return_, 1) := by decide +kernel
def L_X8_removeEntry_59 (b0 fu : Nat)  : Nat → Nat → Int32 → Int32 → tM → Option ((Unit) × tM)
  | 0, _, _, _, _ => none
  | n + 1, x0, x1, x4, σ => ltb (L_X8_removeEntry_59 b0 fu  n) (fun rc59 => if (x4) < (0) then some ((), σ) else ckO b0 (σ) (x0) 8 (osm (tA (σ) (x0) 0) (fun a19 => cll (m_X8_pointer b0 fu (x0) (x1) (x4) (σ)) (fun v21 ρ22 => cll (m_X8_cellOf b0 fu (v21) (ρ22)) (fun v24 ρ25 => ckO b0 (ρ25) (a19) 5 (cll (m_X5_isZeroFrom b0 fu (a19) (v24) (0) (ρ25)) (fun v29 ρ30 => if (v29) = (0) then some ((), ρ30) else ckO b0 (ρ30) (x0) 8 (cll (m_X8_drop b0 fu (x0) (x1) (x4) (ρ30)) (fun v35 ρ36 => ckO b0 (ρ36) (x0) 8 (cll (m_X8_setSize b0 fu (x0) (x1) ((x4) * (256)) (ρ36)) (fun v40 ρ41 => ltb ((x4) + Int32.ofInt (-1)) (fun y43 => rc59 (x0) (x1) (y43) (ρ41)))))))))))))
def L_X8_removeEntry_16 (b0 fu : Nat)  : Nat → Nat → Int32 → Int32 → Int32 → Int32 → tM → Option ((Unit) × tM)
  | 0, _, _, _, _, _, _ => none
  | n + 1, x0, x1, x2, x3, x4, σ => ltb (L_X8_removeEntry_16 b0 fu  n) (fun rc16 => if (4) ≤ (x4) then ckO b0 (σ) (x0) 8 (cll (m_X8_size b0 fu (x0) (x1) (σ)) (fun v12 ρ13 => ltb ((((v12) / (256)) - (1) : Int32)) (fun y15 => L_X8_removeEntry_59 b0 fu  (fu) (x0) (x1) (y15) (ρ13)))) else ckO b0 (σ) (x0) 8 (osm (tA (σ) (x0) 0) (fun a47 => ckO b0 (σ) (a47) 5 (cll (m_X5_setWord b0 fu (a47) (x3) ((((x2) - (x2) / (8) * (8)) * (4)) + (x4)) (0) (σ)) (fun v51 ρ52 => ltb ((x4) + Int32.ofInt 1) (fun y54 => rc16 (x0) (x1) (x2) (x3) (y54) (ρ52)))))))
def m_X8_removeEntry (b0 fu : Nat) (a0 : Nat) (p0 : Int32) (p1 : Int32) (σ : tM) : Option ((Unit) × tM) := grw σ (ckO b0 (σ) (a0) 8 (cll (m_X8_pointer b0 fu (a0) (p0) ((p1) / (8)) (σ)) (fun v3 ρ4 => cll (m_X8_cellOf b0 fu (v3) (ρ4)) (fun v6 ρ7 => L_X8_removeEntry_16 b0 fu  (fu) (a0) (p0) (p1) (v6) (0) (ρ7)))))
set_option maxRecDepth 100000 in
set_option maxHeartbeats 1000000 in
theorem l_X8_removeEntry_59 {p : Program} {l : Launch} {e : Env} {s : State} {m : MethodId} {args : Array Value} {below : List Frame} {meth : Method} {c : Code} {D : va_G} {aC : Nat → ClassId} {b0 fu : Nat} {σ0 τ : tM} {v : Unit}  (C : tCx p l s m args meth c yX8_removeEntry.cls cX8_removeEntry 5 none D aC b0 σ0) (htab : ∀ x ∈ c.exceptionTable.toList, False) (hin : meth.name = yX8_removeEntry.name)  : ∀ (n : Nat) (x0 : Nat) (x1 : Int32) (x4 : Int32) (σ : tM), L_X8_removeEntry_59 b0 fu  n x0 x1 x4 σ = some (v, τ) → tX p l e s m args below meth c 5 4 96 D aC b0 σ0 (.inl none) τ 59 [(0, .ref (x0)), (1, .int (x1)), (4, .int (x4))] [] σ := by
  intro n
  induction n with
  | zero => intro x0 x1 x4 σ hm; unfold L_X8_removeEntry_59 at hm; cases hm
  | succ n ih =>
    intro x0 x1 x4 σ hm
    unfold L_X8_removeEntry_59 at hm
    obtain ⟨rc59, hrc⟩ : ∃ z, z = L_X8_removeEntry_59 b0 fu  n := ⟨_, rfl⟩
    replace hm := ltb_e hm hrc
    rw [← hrc] at ih
    have hrc59 := ih
    clear ih hrc
    refine zx_iload C dX8_removeEntry_59 2 rfl ?_
    refine zx_if_lt C 110 dX8_removeEntry_61 (by decide) (fun c16 => ?_) (fun c16 => ?_)
    · replace hm := ip_e hm c16
      obtain ⟨rfl, rfl⟩ := ret_e hm
      exact zx_vret C rfl rfl rfl dX8_removeEntry_110
    · replace hm := in_e hm c16
      refine zx_aload_n C dX8_removeEntry_64 0 rfl ?_
      obtain ⟨k17, i18, hm⟩ := ckO_e hm
      obtain ⟨a19, h20, hm⟩ := osm_e hm
      refine zx_get (j := 0) C tC_8 k17 i18 ⟨by decide, Or.inl W_1_163⟩ dX8_removeEntry_65 (.ref a19) (rf_s h20) ?_
      refine zx_aload_n C dX8_removeEntry_68 0 rfl ?_
      refine zx_iload_n C dX8_removeEntry_69 1 rfl ?_
      refine zx_iload C dX8_removeEntry_70 2 rfl ?_
      obtain ⟨v21, ρ22, h23, hm⟩ := cll_e hm
      refine zx_callV (σ := σ) C [.int (x1), .int (x4)] tC_8 k17 i18 Y_X8_pointer W_4_109 W_4_110 W_4_111 (c_X8_pointer h23) (by decide) (by decide) rfl (Nat.le_of_ble_eq_true rfl) dX8_removeEntry_72 rfl ?_
      obtain ⟨v24, ρ25, h26, hm⟩ := cll_e hm
      refine zx_callS (σ := ρ22) C [.long (v21)] Y_X8_cellOf W_4_117 W_4_118 (c_X8_cellOf h26) (by decide) (by decide) rfl (Nat.le_of_ble_eq_true rfl) dX8_removeEntry_75 rfl ?_
      refine zx_iconst (v := 0) C dX8_removeEntry_78 (by decide) ?_
      obtain ⟨k27, i28, hm⟩ := ckO_e hm
      obtain ⟨v29, ρ30, h31, hm⟩ := cll_e hm
      refine zx_callV (σ := ρ25) C [.int (v24), .int (0)] tC_5 k27 i28 Y_X5_isZeroFrom W_5_37 W_5_38 W_5_39 (c_X5_isZeroFrom h31) (by decide) (by decide) rfl (Nat.le_of_ble_eq_true rfl) dX8_removeEntry_79 rfl ?_
      refine zx_if_ne C 86 dX8_removeEntry_82 (by decide) (fun c32 => ?_) (fun c32 => ?_)
      · replace hm := in_e hm c32
        refine zx_aload_n C dX8_removeEntry_86 0 rfl ?_
        refine zx_iload_n C dX8_removeEntry_87 1 rfl ?_
        refine zx_iload C dX8_removeEntry_88 2 rfl ?_
        obtain ⟨k33, i34, hm⟩ := ckO_e hm
        obtain ⟨v35, ρ36, h37, hm⟩ := cll_e hm
        refine zx_callV (σ := ρ30) C [.int (x1), .int (x4)] tC_8 k33 i34 Y_X8_drop W_5_42 W_5_44 Wp_33 (c_X8_drop h37) (by decide) (by decide) rfl (Nat.le_of_ble_eq_true rfl) dX8_removeEntry_90 rfl ?_
        refine zx_aload_n C dX8_removeEntry_93 0 rfl ?_
        refine zx_iload_n C dX8_removeEntry_94 1 rfl ?_
        refine zx_iload C dX8_removeEntry_95 2 rfl ?_
        refine zx_sipush (v := 256) C dX8_removeEntry_97 (by decide) ?_
        refine zx_imul C dX8_removeEntry_100 ?_
        obtain ⟨k38, i39, hm⟩ := ckO_e hm
        obtain ⟨v40, ρ41, h42, hm⟩ := cll_e hm
        refine zx_callV (σ := ρ36) C [.int (x1), .int ((x4) * (256))] tC_8 k38 i39 Y_X8_setSize W_4_186 W_4_188 Wp_29 (c_X8_setSize h42) (by decide) (by decide) rfl (Nat.le_of_ble_eq_true rfl) dX8_removeEntry_101 rfl ?_
        obtain ⟨y43, hy43⟩ : ∃ z : Int32, z = (x4) + Int32.ofInt (-1) := ⟨_, rfl⟩
        replace hm := ltb_e hm hy43
        refine zx_iinc C [(4, .int (y43)), (0, .ref (x0)), (1, .int (x1))] dX8_removeEntry_104 2 rfl hy43.symm (by decide) rfl ?_
        refine zx_goto C 59 dX8_removeEntry_107 (by decide) ?_
        exact zx_lv [1, 2, 0] [(0, .ref (x0)), (1, .int (x1)), (4, .int (y43))] rfl (hrc59 _ _ _ _ hm)
      · replace hm := ip_e hm c32
        obtain ⟨rfl, rfl⟩ := ret_e hm
        exact zx_vret C rfl rfl rfl dX8_removeEntry_85
set_option maxRecDepth 100000 in
set_option maxHeartbeats 1000000 in
theorem l_X8_removeEntry_16 {p : Program} {l : Launch} {e : Env} {s : State} {m : MethodId} {args : Array Value} {below : List Frame} {meth : Method} {c : Code} {D : va_G} {aC : Nat → ClassId} {b0 fu : Nat} {σ0 τ : tM} {v : Unit}  (C : tCx p l s m args meth c yX8_removeEntry.cls cX8_removeEntry 5 none D aC b0 σ0) (htab : ∀ x ∈ c.exceptionTable.toList, False) (hin : meth.name = yX8_removeEntry.name)  : ∀ (n : Nat) (x0 : Nat) (x1 : Int32) (x2 : Int32) (x3 : Int32) (x4 : Int32) (σ : tM), L_X8_removeEntry_16 b0 fu  n x0 x1 x2 x3 x4 σ = some (v, τ) → tX p l e s m args below meth c 5 4 96 D aC b0 σ0 (.inl none) τ 16 [(0, .ref (x0)), (1, .int (x1)), (2, .int (x2)), (3, .int (x3)), (4, .int (x4))] [] σ := by
  intro n
  induction n with
  | zero => intro x0 x1 x2 x3 x4 σ hm; unfold L_X8_removeEntry_16 at hm; cases hm
  | succ n ih =>
    intro x0 x1 x2 x3 x4 σ hm
    unfold L_X8_removeEntry_16 at hm
    obtain ⟨rc16, hrc⟩ : ∃ z, z = L_X8_removeEntry_16 b0 fu  n := ⟨_, rfl⟩
    replace hm := ltb_e hm hrc
    rw [← hrc] at ih
    have hrc16 := ih
    clear ih hrc
    refine zx_iload C dX8_removeEntry_16 4 rfl ?_
    refine zx_iconst (v := 4) C dX8_removeEntry_18 (by decide) ?_
    refine zx_icmp_ge C 46 dX8_removeEntry_19 (by decide) (fun c9 => ?_) (fun c9 => ?_)
    · replace hm := ip_e hm c9
      refine zx_aload_n C dX8_removeEntry_46 0 rfl ?_
      refine zx_iload_n C dX8_removeEntry_47 1 rfl ?_
      obtain ⟨k10, i11, hm⟩ := ckO_e hm
      obtain ⟨v12, ρ13, h14, hm⟩ := cll_e hm
      refine zx_callV (σ := σ) C [.int (x1)] tC_8 k10 i11 Y_X8_size W_4_224 W_4_133 W_4_134 (c_X8_size h14) (by decide) (by decide) rfl (Nat.le_of_ble_eq_true rfl) dX8_removeEntry_48 rfl ?_
      refine zx_sipush (v := 256) C dX8_removeEntry_51 (by decide) ?_
      refine zx_idiv C dX8_removeEntry_54 (by decide) ?_
      refine zx_iconst (v := 1) C dX8_removeEntry_55 (by decide) ?_
      refine zx_isub C dX8_removeEntry_56 ?_
      refine zx_topi (fun y15 hy15 => ?_)
      replace hm := ltb_e hm hy15
      refine zx_istore C [(4, .int (y15)), (0, .ref (x0)), (1, .int (x1)), (2, .int (x2)), (3, .int (x3))] dX8_removeEntry_57 (by decide) rfl ?_
      exact zx_lv [1, 2, 0] [(0, .ref (x0)), (1, .int (x1)), (4, .int (y15))] rfl (l_X8_removeEntry_59 C htab hin  _ _ _ _ _ hm)
    · replace hm := in_e hm c9
      refine zx_aload_n C dX8_removeEntry_22 0 rfl ?_
      obtain ⟨k45, i46, hm⟩ := ckO_e hm
      obtain ⟨a47, h48, hm⟩ := osm_e hm
      refine zx_get (j := 0) C tC_8 k45 i46 ⟨by decide, Or.inl W_1_163⟩ dX8_removeEntry_23 (.ref a47) (rf_s h48) ?_
      refine zx_iload_n C dX8_removeEntry_26 3 rfl ?_
      refine zx_iload_n C dX8_removeEntry_27 2 rfl ?_
      refine zx_bipush (v := 8) C dX8_removeEntry_28 (by decide) ?_
      refine zx_irem C dX8_removeEntry_30 (by decide) ?_
      refine zx_iconst (v := 4) C dX8_removeEntry_31 (by decide) ?_
      refine zx_imul C dX8_removeEntry_32 ?_
      refine zx_iload C dX8_removeEntry_33 4 rfl ?_
      refine zx_iadd C dX8_removeEntry_35 ?_
      refine zx_lconst (v := 0) C dX8_removeEntry_36 (by decide) ?_
      obtain ⟨k49, i50, hm⟩ := ckO_e hm
      obtain ⟨v51, ρ52, h53, hm⟩ := cll_e hm
      refine zx_callV (σ := σ) C [.int (x3), .int ((((x2) - (x2) / (8) * (8)) * (4)) + (x4)), .long (0)] tC_5 k49 i50 Y_X5_setWord W_4_216 W_4_217 W_4_218 (c_X5_setWord h53) (by decide) (by decide) rfl (Nat.le_of_ble_eq_true rfl) dX8_removeEntry_37 rfl ?_
      obtain ⟨y54, hy54⟩ : ∃ z : Int32, z = (x4) + Int32.ofInt 1 := ⟨_, rfl⟩
      replace hm := ltb_e hm hy54
      refine zx_iinc C [(4, .int (y54)), (0, .ref (x0)), (1, .int (x1)), (2, .int (x2)), (3, .int (x3))] dX8_removeEntry_40 4 rfl hy54.symm (by decide) rfl ?_
      refine zx_goto C 16 dX8_removeEntry_43 (by decide) ?_
      exact zx_lv [1, 2, 3, 4, 0] [(0, .ref (x0)), (1, .int (x1)), (2, .int (x2)), (3, .int (x3)), (4, .int (y54))] rfl (hrc16 _ _ _ _ _ _ hm)
set_option maxRecDepth 100000 in
set_option maxHeartbeats 1000000 in
theorem c_X8_removeEntry {l : Launch} {D : va_G} {aC : Nat → ClassId} {b0 fu : Nat} {a0 : Nat} {p0 : Int32} {p1 : Int32} {σ τ : tM} {v : Unit} (hm : m_X8_removeEntry b0 fu a0 p0 p1 σ = some (v, τ)) : tMt l D aC b0 yX8_removeEntry (Cond.code yX8_removeEntry cX8_removeEntry 5 none) 4 96 [.ref (a0), .int (p0), .int (p1)] σ (.inl none) τ := by
  unfold m_X8_removeEntry at hm
  obtain ⟨hg, hm⟩ := grw_e hm
  refine tMt_of (n := 0) rfl (Nat.le_of_ble_eq_true rfl) hg ?_
  intro p e s m below meth c C htab hin
  refine zx_lv [0, 1, 2] [(0, .ref (a0)), (1, .int (p0)), (2, .int (p1))] rfl ?_
  refine zx_aload_n C dX8_removeEntry_0 0 rfl ?_
  refine zx_iload_n C dX8_removeEntry_1 1 rfl ?_
  refine zx_iload_n C dX8_removeEntry_2 2 rfl ?_
  refine zx_bipush (v := 8) C dX8_removeEntry_3 (by decide) ?_
  refine zx_idiv C dX8_removeEntry_5 (by decide) ?_
  obtain ⟨k1, i2, hm⟩ := ckO_e hm
  obtain ⟨v3, ρ4, h5, hm⟩ := cll_e hm
  refine zx_callV (σ := σ) C [.int (p0), .int ((p1) / (8))] tC_8 k1 i2 Y_X8_pointer W_4_109 W_4_110 W_4_111 (c_X8_pointer h5) (by decide) (by decide) rfl (Nat.le_of_ble_eq_true rfl) dX8_removeEntry_6 rfl ?_
  obtain ⟨v6, ρ7, h8, hm⟩ := cll_e hm
  refine zx_callS (σ := ρ4) C [.long (v3)] Y_X8_cellOf W_4_117 W_4_118 (c_X8_cellOf h8) (by decide) (by decide) rfl (Nat.le_of_ble_eq_true rfl) dX8_removeEntry_9 rfl ?_
  refine zx_istore_n C [(3, .int (v6)), (0, .ref (a0)), (1, .int (p0)), (2, .int (p1))] dX8_removeEntry_12 rfl (by decide) rfl ?_
  refine zx_iconst (v := 0) C dX8_removeEntry_13 (by decide) ?_
  refine zx_istore C [(4, .int (0)), (3, .int (v6)), (0, .ref (a0)), (1, .int (p0)), (2, .int (p1))] dX8_removeEntry_14 (by decide) rfl ?_
  exact zx_lv [2, 3, 4, 1, 0] [(0, .ref (a0)), (1, .int (p0)), (2, .int (p1)), (3, .int (v6)), (4, .int (0))] rfl (l_X8_removeEntry_16 C htab hin  _ _ _ _ _ _ _ hm)
abbrev cX9_walkWhole : ByteArray := prog_11_method_2_code
def yX9_walkWhole : MethodName := ⟨"SyncTree$Walker", "walkWhole", "(LSyncTree$PathText;Z)I"⟩
theorem Y_X9_walkWhole : tY yX9_walkWhole cX9_walkWhole 3 (some .int) 2 := ⟨W_5_13, W_1_7, ⟨by decide +kernel, by decide +kernel⟩, by decide +kernel⟩
theorem dX9_walkWhole_0 : decode cX9_walkWhole 0 = .ok (.aload_n 0, 1) := by decide +kernel
theorem dX9_walkWhole_1 : decode cX9_walkWhole 1 = .ok (.aload_n 1, 1) := by decide +kernel
theorem dX9_walkWhole_2 : decode cX9_walkWhole 2 = .ok (.aload_n 1, 1) := by decide +kernel
theorem dX9_walkWhole_3 : decode cX9_walkWhole 3 = .ok (.getfield 19, 3) := by decide +kernel
theorem dX9_walkWhole_6 : decode cX9_walkWhole 6 = .ok (.iload_n 2, 1) := by decide +kernel
theorem dX9_walkWhole_7 : decode cX9_walkWhole 7 = .ok (.invokevirtual 25, 3) := by decide +kernel
theorem dX9_walkWhole_10 : decode cX9_walkWhole 10 = .ok (.ireturn, 1) := by decide +kernel
def m_X9_walkWhole (b0 fu : Nat) (a0 : Nat) (p0 : Nat) (p1 : Int32) (σ : tM) : Option ((Int32) × tM) := grw σ (ckO b0 (σ) (p0) 3 (ckO b0 (σ) (a0) 9 (cll (m_X9_walk b0 fu (a0) (p0) (tI (σ) (p0) 1) (p1) (σ)) (fun v5 ρ6 => some (v5, ρ6)))))
set_option maxRecDepth 100000 in
set_option maxHeartbeats 1000000 in
theorem c_X9_walkWhole {l : Launch} {D : va_G} {aC : Nat → ClassId} {b0 fu : Nat} {a0 : Nat} {p0 : Nat} {p1 : Int32} {σ τ : tM} {v : Int32} (hm : m_X9_walkWhole b0 fu a0 p0 p1 σ = some (v, τ)) : tMt l D aC b0 yX9_walkWhole (Cond.code yX9_walkWhole cX9_walkWhole 3 (some .int)) 5 128 [.ref (a0), .ref (p0), .int (p1)] σ (.inl (some (.int v))) τ := by
  unfold m_X9_walkWhole at hm
  obtain ⟨hg, hm⟩ := grw_e hm
  refine tMt_of (n := 0) rfl (Nat.le_of_ble_eq_true rfl) hg ?_
  intro p e s m below meth c C htab hin
  refine zx_lv [0, 1, 2] [(0, .ref (a0)), (1, .ref (p0)), (2, .int (p1))] rfl ?_
  refine zx_aload_n C dX9_walkWhole_0 0 rfl ?_
  refine zx_aload_n C dX9_walkWhole_1 1 rfl ?_
  refine zx_aload_n C dX9_walkWhole_2 1 rfl ?_
  obtain ⟨k1, i2, hm⟩ := ckO_e hm
  refine zx_get (j := 1) C tC_3 k1 i2 ⟨by decide, Or.inr ⟨_, W_2_60⟩⟩ dX9_walkWhole_3 (.int (tI (σ) (p0) 1)) rfl ?_
  refine zx_iload_n C dX9_walkWhole_6 2 rfl ?_
  obtain ⟨k3, i4, hm⟩ := ckO_e hm
  obtain ⟨v5, ρ6, h7, hm⟩ := cll_e hm
  refine zx_callV (σ := σ) C [.ref (p0), .int (tI (σ) (p0) 1), .int (p1)] tC_9 k3 i4 Y_X9_walk W_4_73 W_4_75 Wp_21 (c_X9_walk h7) (by decide) (by decide) rfl (Nat.le_of_ble_eq_true rfl) dX9_walkWhole_7 rfl ?_
  obtain ⟨rfl, rfl⟩ := ret_e hm
  exact zx_iret C rfl rfl rfl dX9_walkWhole_10
abbrev cX9_walkAhead : ByteArray := prog_11_method_3_code
def yX9_walkAhead : MethodName := ⟨"SyncTree$Walker", "walkAhead", "(LSyncTree$PathText;)I"⟩
theorem Y_X9_walkAhead : tY yX9_walkAhead cX9_walkAhead 3 (some .int) 1 := ⟨W_4_72, W_1_7, ⟨by decide +kernel, by decide +kernel⟩, by decide +kernel⟩
theorem dX9_walkAhead_0 : decode cX9_walkAhead 0 = .ok (.aload_n 0, 1) := by decide +kernel
theorem dX9_walkAhead_1 : decode cX9_walkAhead 1 = .ok (.aload_n 1, 1) := by decide +kernel
theorem dX9_walkAhead_2 : decode cX9_walkAhead 2 = .ok (.aload_n 1, 1) := by decide +kernel
theorem dX9_walkAhead_3 : decode cX9_walkAhead 3 = .ok (.getfield 29, 3) := by decide +kernel
theorem dX9_walkAhead_6 : decode cX9_walkAhead 6 = .ok (.iconst 1, 1) := by decide +kernel
theorem dX9_walkAhead_7 : decode cX9_walkAhead 7 = .ok (.invokevirtual 25, 3) := by decide +kernel
theorem dX9_walkAhead_10 : decode cX9_walkAhead 10 = .ok (.istore_n 2, 1) := by decide +kernel
theorem dX9_walkAhead_11 : decode cX9_walkAhead 11 = .ok (.iload_n 2, 1) := by decide +kernel
theorem dX9_walkAhead_12 : decode cX9_walkAhead 12 = .ok (.ifCond .ge 5, 3) := by decide +kernel
theorem dX9_walkAhead_15 : decode cX9_walkAhead 15 = .ok (.iload_n 2, 1) := by decide +kernel
theorem dX9_walkAhead_16 : decode cX9_walkAhead 16 = .ok (.ireturn, 1) := by decide +kernel
theorem dX9_walkAhead_17 : decode cX9_walkAhead 17 = .ok (.aload_n 1, 1) := by decide +kernel
theorem dX9_walkAhead_18 : decode cX9_walkAhead 18 = .ok (.invokevirtual 32, 3) := by decide +kernel
theorem dX9_walkAhead_21 : decode cX9_walkAhead 21 = .ok (.ifCond .ne 6, 3) := by decide +kernel
theorem dX9_walkAhead_24 : decode cX9_walkAhead 24 = .ok (.bipush (-9), 2) := by decide +kernel
theorem dX9_walkAhead_26 : decode cX9_walkAhead 26 = .ok (.ireturn, 1) := by decide +kernel
theorem dX9_walkAhead_27 : decode cX9_walkAhead 27 = .ok (.aload_n 0, 1) := by decide +kernel
theorem dX9_walkAhead_28 : decode cX9_walkAhead 28 = .ok (.getfield 15, 3) := by decide +kernel
theorem dX9_walkAhead_31 : decode cX9_walkAhead 31 = .ok (.iload_n 2, 1) := by decide +kernel
theorem dX9_walkAhead_32 : decode cX9_walkAhead 32 = .ok (.invokevirtual 36, 3) := by decide +kernel
theorem dX9_walkAhead_35 : decode cX9_walkAhead 35 = .ok (.iconst 2, 1) := by decide +kernel
theorem dX9_walkAhead_36 : decode cX9_walkAhead 36 = .ok (.if_icmp .ne 7, 3) := by decide +kernel
theorem dX9_walkAhead_39 : decode cX9_walkAhead 39 = .ok (.iload_n 2, 1) := by decide +kernel
theorem dX9_walkAhead_40 : decode cX9_walkAhead 40 = .ok (.goto 5, 3) := by decide +kernel
theorem dX9_walkAhead_43 : decode cX9_walkAhead 43 = .ok (.bipush (-3), 2) := by decide +kernel
theorem dX9_walkAhead_45 : decode cX9_walkAhead 45 = .ok (.ireturn, 1) := by decide +kernel
def J_X9_walkAhead_45 (b0 fu : Nat)  (s0 : Int32) (σ : tM) : Option ((Int32) × tM) := some (s0, σ)
def m_X9_walkAhead (b0 fu : Nat) (a0 : Nat) (p0 : Nat) (σ : tM) : Option ((Int32) × tM) := grw σ (ckO b0 (σ) (p0) 3 (ckO b0 (σ) (a0) 9 (cll (m_X9_walk b0 fu (a0) (p0) (tI (σ) (p0) 2) (1) (σ)) (fun v5 ρ6 => if (0) ≤ (v5) then ckO b0 (ρ6) (p0) 3 (cll (m_X3_hasOwnLastName b0 fu (p0) (ρ6)) (fun v11 ρ12 => if (v11) = (0) then some ((-9), ρ12) else ckO b0 (ρ12) (a0) 9 (osm (tA (ρ12) (a0) 0) (fun a17 => ckO b0 (ρ12) (a17) 8 (cll (m_X8_kind b0 fu (a17) (v5) (ρ12)) (fun v21 ρ22 => if (v21) = (2) then J_X9_walkAhead_45 b0 fu   (v5) (ρ22) else J_X9_walkAhead_45 b0 fu   ((-3)) (ρ22))))))) else some (v5, ρ6)))))
set_option maxRecDepth 100000 in
set_option maxHeartbeats 1000000 in
theorem j_X9_walkAhead_45 {p : Program} {l : Launch} {e : Env} {s : State} {m : MethodId} {args : Array Value} {below : List Frame} {meth : Method} {c : Code} {D : va_G} {aC : Nat → ClassId} {b0 fu : Nat} {σ0 τ : tM} {v : Int32}  (C : tCx p l s m args meth c yX9_walkAhead.cls cX9_walkAhead 3 (some .int) D aC b0 σ0) (htab : ∀ x ∈ c.exceptionTable.toList, False) (hin : meth.name = yX9_walkAhead.name)  {s0 : Int32} {σ : tM} (hm : J_X9_walkAhead_45 b0 fu  s0 σ = some (v, τ)) : tX p l e s m args below meth c 3 5 128 D aC b0 σ0 (.inl (some (.int v))) τ 45 [] [.int (s0)] σ := by
  unfold J_X9_walkAhead_45 at hm
  obtain ⟨rfl, rfl⟩ := ret_e hm
  exact zx_iret C rfl rfl rfl dX9_walkAhead_45
set_option maxRecDepth 100000 in
set_option maxHeartbeats 1000000 in
theorem c_X9_walkAhead {l : Launch} {D : va_G} {aC : Nat → ClassId} {b0 fu : Nat} {a0 : Nat} {p0 : Nat} {σ τ : tM} {v : Int32} (hm : m_X9_walkAhead b0 fu a0 p0 σ = some (v, τ)) : tMt l D aC b0 yX9_walkAhead (Cond.code yX9_walkAhead cX9_walkAhead 3 (some .int)) 5 128 [.ref (a0), .ref (p0)] σ (.inl (some (.int v))) τ := by
  unfold m_X9_walkAhead at hm
  obtain ⟨hg, hm⟩ := grw_e hm
  refine tMt_of (n := 0) rfl (Nat.le_of_ble_eq_true rfl) hg ?_
  intro p e s m below meth c C htab hin
  refine zx_lv [0, 1] [(0, .ref (a0)), (1, .ref (p0))] rfl ?_
  refine zx_aload_n C dX9_walkAhead_0 0 rfl ?_
  refine zx_aload_n C dX9_walkAhead_1 1 rfl ?_
  refine zx_aload_n C dX9_walkAhead_2 1 rfl ?_
  obtain ⟨k1, i2, hm⟩ := ckO_e hm
  refine zx_get (j := 2) C tC_3 k1 i2 ⟨by decide, Or.inr ⟨_, W_2_64⟩⟩ dX9_walkAhead_3 (.int (tI (σ) (p0) 2)) rfl ?_
  refine zx_iconst (v := 1) C dX9_walkAhead_6 (by decide) ?_
  obtain ⟨k3, i4, hm⟩ := ckO_e hm
  obtain ⟨v5, ρ6, h7, hm⟩ := cll_e hm
  refine zx_callV (σ := σ) C [.ref (p0), .int (tI (σ) (p0) 2), .int (1)] tC_9 k3 i4 Y_X9_walk W_4_73 W_4_75 Wp_21 (c_X9_walk h7) (by decide) (by decide) rfl (Nat.le_of_ble_eq_true rfl) dX9_walkAhead_7 rfl ?_
  refine zx_istore_n C [(2, .int (v5)), (0, .ref (a0)), (1, .ref (p0))] dX9_walkAhead_10 rfl (by decide) rfl ?_
  refine zx_iload_n C dX9_walkAhead_11 0 rfl ?_
  refine zx_if_ge C 17 dX9_walkAhead_12 (by decide) (fun c8 => ?_) (fun c8 => ?_)
  · replace hm := ip_e hm c8
    refine zx_aload_n C dX9_walkAhead_17 2 rfl ?_
    obtain ⟨k9, i10, hm⟩ := ckO_e hm
    obtain ⟨v11, ρ12, h13, hm⟩ := cll_e hm
    refine zx_callV (σ := ρ6) C [] tC_3 k9 i10 Y_X3_hasOwnLastName W_4_140 W_4_141 W_4_142 (c_X3_hasOwnLastName h13) (by decide) (by decide) rfl (Nat.le_of_ble_eq_true rfl) dX9_walkAhead_18 rfl ?_
    refine zx_if_ne C 27 dX9_walkAhead_21 (by decide) (fun c14 => ?_) (fun c14 => ?_)
    · replace hm := in_e hm c14
      refine zx_aload_n C dX9_walkAhead_27 1 rfl ?_
      obtain ⟨k15, i16, hm⟩ := ckO_e hm
      obtain ⟨a17, h18, hm⟩ := osm_e hm
      refine zx_get (j := 0) C tC_9 k15 i16 ⟨by decide, Or.inl W_2_20⟩ dX9_walkAhead_28 (.ref a17) (rf_s h18) ?_
      refine zx_iload_n C dX9_walkAhead_31 0 rfl ?_
      obtain ⟨k19, i20, hm⟩ := ckO_e hm
      obtain ⟨v21, ρ22, h23, hm⟩ := cll_e hm
      refine zx_callV (σ := ρ12) C [.int (v5)] tC_8 k19 i20 Y_X8_kind W_4_92 W_3_80 W_3_81 (c_X8_kind h23) (by decide) (by decide) rfl (Nat.le_of_ble_eq_true rfl) dX9_walkAhead_32 rfl ?_
      refine zx_iconst (v := 2) C dX9_walkAhead_35 (by decide) ?_
      refine zx_icmp_ne C 43 dX9_walkAhead_36 (by decide) (fun c24 => ?_) (fun c24 => ?_)
      · replace hm := in_e hm c24
        refine zx_bipush (v := (-3)) C dX9_walkAhead_43 (by decide) ?_
        exact zx_lv [] [] rfl (j_X9_walkAhead_45 C htab hin    hm)
      · replace hm := ip_e hm c24
        refine zx_iload_n C dX9_walkAhead_39 0 rfl ?_
        refine zx_goto C 45 dX9_walkAhead_40 (by decide) ?_
        exact zx_lv [] [] rfl (j_X9_walkAhead_45 C htab hin    hm)
    · replace hm := ip_e hm c14
      refine zx_bipush (v := (-9)) C dX9_walkAhead_24 (by decide) ?_
      obtain ⟨rfl, rfl⟩ := ret_e hm
      exact zx_iret C rfl rfl rfl dX9_walkAhead_26
  · replace hm := in_e hm c8
    refine zx_iload_n C dX9_walkAhead_15 0 rfl ?_
    obtain ⟨rfl, rfl⟩ := ret_e hm
    exact zx_iret C rfl rfl rfl dX9_walkAhead_16
abbrev cX10_placeForNew : ByteArray := prog_1_method_10_code
def yX10_placeForNew : MethodName := ⟨"SyncTree", "placeForNew", "()I"⟩
theorem Y_X10_placeForNew : tY yX10_placeForNew cX10_placeForNew 2 (some .int) 0 := ⟨W_4_68, W_1_1, ⟨by decide +kernel, by decide +kernel⟩, by decide +kernel⟩
theorem dX10_placeForNew_0 : decode cX10_placeForNew 0 = .ok (.aload_n 0, 1) := by decide +kernel
theorem dX10_placeForNew_1 : decode cX10_placeForNew 1 = .ok (.getfield 55, 3) := by decide +kernel
theorem dX10_placeForNew_4 : decode cX10_placeForNew 4 = .ok (.aload_n 0, 1) := by decide +kernel
theorem dX10_placeForNew_5 : decode cX10_placeForNew 5 = .ok (.getfield 69, 3) := by decide +kernel
theorem dX10_placeForNew_8 : decode cX10_placeForNew 8 = .ok (.invokevirtual 153, 3) := by decide +kernel
theorem dX10_placeForNew_11 : decode cX10_placeForNew 11 = .ok (.istore_n 1, 1) := by decide +kernel
theorem dX10_placeForNew_12 : decode cX10_placeForNew 12 = .ok (.iload_n 1, 1) := by decide +kernel
theorem dX10_placeForNew_13 : decode cX10_placeForNew 13 = .ok (.ifCond .ge 5, 3) := by decide +kernel
theorem dX10_placeForNew_16 : decode cX10_placeForNew 16 = .ok (.iload_n 1, 1) := by decide +kernel
theorem dX10_placeForNew_17 : decode cX10_placeForNew 17 = .ok (.ireturn, 1) := by decide +kernel
theorem dX10_placeForNew_18 : decode cX10_placeForNew 18 = .ok (.aload_n 0, 1) := by decide +kernel
theorem dX10_placeForNew_19 : decode cX10_placeForNew 19 = .ok (.getfield 28, 3) := by decide +kernel
theorem dX10_placeForNew_22 : decode cX10_placeForNew 22 = .ok (.iload_n 1, 1) := by decide +kernel
theorem dX10_placeForNew_23 : decode cX10_placeForNew 23 = .ok (.aload_n 0, 1) := by decide +kernel
theorem dX10_placeForNew_24 : decode cX10_placeForNew 24 = .ok (.getfield 69, 3) := by decide +kernel
theorem dX10_placeForNew_27 : decode cX10_placeForNew 27 = .ok (.invokevirtual 157, 3) := by decide +kernel
theorem dX10_placeForNew_30 : decode cX10_placeForNew 30 = .ok (.ifCond .lt 6, 3) := by decide +kernel
theorem dX10_placeForNew_33 : decode cX10_placeForNew 33 = .ok (.bipush (-2), 2) := by decide +kernel
theorem dX10_placeForNew_35 : decode cX10_placeForNew 35 = .ok (.ireturn, 1) := by decide +kernel
theorem dX10_placeForNew_36 : decode cX10_placeForNew 36 = .ok (.aload_n 0, 1) := by decide +kernel
theorem dX10_placeForNew_37 : decode cX10_placeForNew 37 = .ok (.getfield 69, 3) := by decide +kernel
theorem dX10_placeForNew_40 : decode cX10_placeForNew 40 = .ok (.getfield 161, 3) := by decide +kernel
theorem dX10_placeForNew_43 : decode cX10_placeForNew 43 = .ok (.bipush 28, 2) := by decide +kernel
theorem dX10_placeForNew_45 : decode cX10_placeForNew 45 = .ok (.if_icmp .le 8, 3) := by decide +kernel
theorem dX10_placeForNew_48 : decode cX10_placeForNew 48 = .ok (.bipush (-7), 2) := by decide +kernel
theorem dX10_placeForNew_50 : decode cX10_placeForNew 50 = .ok (.goto 4, 3) := by decide +kernel
theorem dX10_placeForNew_53 : decode cX10_placeForNew 53 = .ok (.iload_n 1, 1) := by decide +kernel
theorem dX10_placeForNew_54 : decode cX10_placeForNew 54 = .ok (.ireturn, 1) := by decide +kernel
def J_X10_placeForNew_54 (b0 fu : Nat)  (s0 : Int32) (σ : tM) : Option ((Int32) × tM) := some (s0, σ)
def m_X10_placeForNew (b0 fu : Nat) (a0 : Nat) (σ : tM) : Option ((Int32) × tM) := grw σ (ckO b0 (σ) (a0) 10 (osm (tA (σ) (a0) 5) (fun a3 => osm (tA (σ) (a0) 7) (fun a5 => ckO b0 (σ) (a3) 9 (cll (m_X9_walkAhead b0 fu (a3) (a5) (σ)) (fun v9 ρ10 => if (0) ≤ (v9) then ckO b0 (ρ10) (a0) 10 (osm (tA (ρ10) (a0) 2) (fun a15 => osm (tA (ρ10) (a0) 7) (fun a17 => ckO b0 (ρ10) (a15) 8 (cll (m_X8_findLast b0 fu (a15) (v9) (a17) (ρ10)) (fun v21 ρ22 => if (v21) < (0) then ckO b0 (ρ22) (a0) 10 (osm (tA (ρ22) (a0) 7) (fun a27 => ckO b0 (ρ22) (a27) 3 (if (tI (ρ22) (a27) 3) ≤ (28) then J_X10_placeForNew_54 b0 fu   (v9) (ρ22) else J_X10_placeForNew_54 b0 fu   ((-7)) (ρ22)))) else some ((-2), ρ22)))))) else some (v9, ρ10)))))))
set_option maxRecDepth 100000 in
set_option maxHeartbeats 1000000 in
theorem j_X10_placeForNew_54 {p : Program} {l : Launch} {e : Env} {s : State} {m : MethodId} {args : Array Value} {below : List Frame} {meth : Method} {c : Code} {D : va_G} {aC : Nat → ClassId} {b0 fu : Nat} {σ0 τ : tM} {v : Int32}  (C : tCx p l s m args meth c yX10_placeForNew.cls cX10_placeForNew 2 (some .int) D aC b0 σ0) (htab : ∀ x ∈ c.exceptionTable.toList, False) (hin : meth.name = yX10_placeForNew.name)  {s0 : Int32} {σ : tM} (hm : J_X10_placeForNew_54 b0 fu  s0 σ = some (v, τ)) : tX p l e s m args below meth c 2 6 150 D aC b0 σ0 (.inl (some (.int v))) τ 54 [] [.int (s0)] σ := by
  unfold J_X10_placeForNew_54 at hm
  obtain ⟨rfl, rfl⟩ := ret_e hm
  exact zx_iret C rfl rfl rfl dX10_placeForNew_54
set_option maxRecDepth 100000 in
set_option maxHeartbeats 1000000 in
theorem c_X10_placeForNew {l : Launch} {D : va_G} {aC : Nat → ClassId} {b0 fu : Nat} {a0 : Nat} {σ τ : tM} {v : Int32} (hm : m_X10_placeForNew b0 fu a0 σ = some (v, τ)) : tMt l D aC b0 yX10_placeForNew (Cond.code yX10_placeForNew cX10_placeForNew 2 (some .int)) 6 150 [.ref (a0)] σ (.inl (some (.int v))) τ := by
  unfold m_X10_placeForNew at hm
  obtain ⟨hg, hm⟩ := grw_e hm
  refine tMt_of (n := 0) rfl (Nat.le_of_ble_eq_true rfl) hg ?_
  intro p e s m below meth c C htab hin
  refine zx_lv [0] [(0, .ref (a0))] rfl ?_
  refine zx_aload_n C dX10_placeForNew_0 0 rfl ?_
  obtain ⟨k1, i2, hm⟩ := ckO_e hm
  obtain ⟨a3, h4, hm⟩ := osm_e hm
  refine zx_get (j := 5) C tC_10 k1 i2 ⟨by decide, Or.inl W_2_218⟩ dX10_placeForNew_1 (.ref a3) (rf_s h4) ?_
  refine zx_aload_n C dX10_placeForNew_4 0 rfl ?_
  obtain ⟨a5, h6, hm⟩ := osm_e hm
  refine zx_get (j := 7) C tC_10 k1 i2 ⟨by decide, Or.inl W_2_220⟩ dX10_placeForNew_5 (.ref a5) (rf_s h6) ?_
  obtain ⟨k7, i8, hm⟩ := ckO_e hm
  obtain ⟨v9, ρ10, h11, hm⟩ := cll_e hm
  refine zx_callV (σ := σ) C [.ref (a5)] tC_9 k7 i8 Y_X9_walkAhead W_4_69 W_4_70 W_4_71 (c_X9_walkAhead h11) (by decide) (by decide) rfl (Nat.le_of_ble_eq_true rfl) dX10_placeForNew_8 rfl ?_
  refine zx_istore_n C [(1, .int (v9)), (0, .ref (a0))] dX10_placeForNew_11 rfl (by decide) rfl ?_
  refine zx_iload_n C dX10_placeForNew_12 0 rfl ?_
  refine zx_if_ge C 18 dX10_placeForNew_13 (by decide) (fun c12 => ?_) (fun c12 => ?_)
  · replace hm := ip_e hm c12
    refine zx_aload_n C dX10_placeForNew_18 1 rfl ?_
    obtain ⟨k13, i14, hm⟩ := ckO_e hm
    obtain ⟨a15, h16, hm⟩ := osm_e hm
    refine zx_get (j := 2) C tC_10 k13 i14 ⟨by decide, Or.inl W_2_215⟩ dX10_placeForNew_19 (.ref a15) (rf_s h16) ?_
    refine zx_iload_n C dX10_placeForNew_22 0 rfl ?_
    refine zx_aload_n C dX10_placeForNew_23 1 rfl ?_
    obtain ⟨a17, h18, hm⟩ := osm_e hm
    refine zx_get (j := 7) C tC_10 k13 i14 ⟨by decide, Or.inl W_2_220⟩ dX10_placeForNew_24 (.ref a17) (rf_s h18) ?_
    obtain ⟨k19, i20, hm⟩ := ckO_e hm
    obtain ⟨v21, ρ22, h23, hm⟩ := cll_e hm
    refine zx_callV (σ := ρ10) C [.int (v9), .ref (a17)] tC_8 k19 i20 Y_X8_findLast W_4_145 W_4_146 W_4_147 (c_X8_findLast h23) (by decide) (by decide) rfl (Nat.le_of_ble_eq_true rfl) dX10_placeForNew_27 rfl ?_
    refine zx_if_lt C 36 dX10_placeForNew_30 (by decide) (fun c24 => ?_) (fun c24 => ?_)
    · replace hm := ip_e hm c24
      refine zx_aload_n C dX10_placeForNew_36 1 rfl ?_
      obtain ⟨k25, i26, hm⟩ := ckO_e hm
      obtain ⟨a27, h28, hm⟩ := osm_e hm
      refine zx_get (j := 7) C tC_10 k25 i26 ⟨by decide, Or.inl W_2_220⟩ dX10_placeForNew_37 (.ref a27) (rf_s h28) ?_
      obtain ⟨k29, i30, hm⟩ := ckO_e hm
      refine zx_get (j := 3) C tC_3 k29 i30 ⟨by decide, Or.inr ⟨_, W_2_67⟩⟩ dX10_placeForNew_40 (.int (tI (ρ22) (a27) 3)) rfl ?_
      refine zx_bipush (v := 28) C dX10_placeForNew_43 (by decide) ?_
      refine zx_icmp_le C 53 dX10_placeForNew_45 (by decide) (fun c31 => ?_) (fun c31 => ?_)
      · replace hm := ip_e hm c31
        refine zx_iload_n C dX10_placeForNew_53 0 rfl ?_
        exact zx_lv [] [] rfl (j_X10_placeForNew_54 C htab hin    hm)
      · replace hm := in_e hm c31
        refine zx_bipush (v := (-7)) C dX10_placeForNew_48 (by decide) ?_
        refine zx_goto C 54 dX10_placeForNew_50 (by decide) ?_
        exact zx_lv [] [] rfl (j_X10_placeForNew_54 C htab hin    hm)
    · replace hm := in_e hm c24
      refine zx_bipush (v := (-2)) C dX10_placeForNew_33 (by decide) ?_
      obtain ⟨rfl, rfl⟩ := ret_e hm
      exact zx_iret C rfl rfl rfl dX10_placeForNew_35
  · replace hm := in_e hm c12
    refine zx_iload_n C dX10_placeForNew_16 0 rfl ?_
    obtain ⟨rfl, rfl⟩ := ret_e hm
    exact zx_iret C rfl rfl rfl dX10_placeForNew_17
abbrev cX10_entryOfLast : ByteArray := prog_1_method_14_code
def yX10_entryOfLast : MethodName := ⟨"SyncTree", "entryOfLast", "(LSyncTree$PathText;)I"⟩
theorem Y_X10_entryOfLast : tY yX10_entryOfLast cX10_entryOfLast 3 (some .int) 1 := ⟨W_5_31, W_1_1, ⟨by decide +kernel, by decide +kernel⟩, by decide +kernel⟩
theorem dX10_entryOfLast_0 : decode cX10_entryOfLast 0 = .ok (.aload_n 1, 1) := by decide +kernel
theorem dX10_entryOfLast_1 : decode cX10_entryOfLast 1 = .ok (.aload_n 0, 1) := by decide +kernel
theorem dX10_entryOfLast_2 : decode cX10_entryOfLast 2 = .ok (.getfield 55, 3) := by decide +kernel
theorem dX10_entryOfLast_5 : decode cX10_entryOfLast 5 = .ok (.aload_n 1, 1) := by decide +kernel
theorem dX10_entryOfLast_6 : decode cX10_entryOfLast 6 = .ok (.invokevirtual 153, 3) := by decide +kernel
theorem dX10_entryOfLast_9 : decode cX10_entryOfLast 9 = .ok (.putfield 181, 3) := by decide +kernel
theorem dX10_entryOfLast_12 : decode cX10_entryOfLast 12 = .ok (.aload_n 1, 1) := by decide +kernel
theorem dX10_entryOfLast_13 : decode cX10_entryOfLast 13 = .ok (.getfield 181, 3) := by decide +kernel
theorem dX10_entryOfLast_16 : decode cX10_entryOfLast 16 = .ok (.ifCond .ge 8, 3) := by decide +kernel
theorem dX10_entryOfLast_19 : decode cX10_entryOfLast 19 = .ok (.aload_n 1, 1) := by decide +kernel
theorem dX10_entryOfLast_20 : decode cX10_entryOfLast 20 = .ok (.getfield 181, 3) := by decide +kernel
theorem dX10_entryOfLast_23 : decode cX10_entryOfLast 23 = .ok (.ireturn, 1) := by decide +kernel
theorem dX10_entryOfLast_24 : decode cX10_entryOfLast 24 = .ok (.aload_n 1, 1) := by decide +kernel
theorem dX10_entryOfLast_25 : decode cX10_entryOfLast 25 = .ok (.getfield 161, 3) := by decide +kernel
theorem dX10_entryOfLast_28 : decode cX10_entryOfLast 28 = .ok (.bipush 28, 2) := by decide +kernel
theorem dX10_entryOfLast_30 : decode cX10_entryOfLast 30 = .ok (.if_icmp .le 6, 3) := by decide +kernel
theorem dX10_entryOfLast_33 : decode cX10_entryOfLast 33 = .ok (.bipush (-7), 2) := by decide +kernel
theorem dX10_entryOfLast_35 : decode cX10_entryOfLast 35 = .ok (.ireturn, 1) := by decide +kernel
theorem dX10_entryOfLast_36 : decode cX10_entryOfLast 36 = .ok (.aload_n 0, 1) := by decide +kernel
theorem dX10_entryOfLast_37 : decode cX10_entryOfLast 37 = .ok (.getfield 28, 3) := by decide +kernel
theorem dX10_entryOfLast_40 : decode cX10_entryOfLast 40 = .ok (.aload_n 1, 1) := by decide +kernel
theorem dX10_entryOfLast_41 : decode cX10_entryOfLast 41 = .ok (.getfield 181, 3) := by decide +kernel
theorem dX10_entryOfLast_44 : decode cX10_entryOfLast 44 = .ok (.aload_n 1, 1) := by decide +kernel
theorem dX10_entryOfLast_45 : decode cX10_entryOfLast 45 = .ok (.invokevirtual 157, 3) := by decide +kernel
theorem dX10_entryOfLast_48 : decode cX10_entryOfLast 48 = .ok (.istore_n 2, 1) := by decide +kernel
theorem dX10_entryOfLast_49 : decode cX10_entryOfLast 49 = .ok (.iload_n 2, 1) := by decide +kernel
theorem dX10_entryOfLast_50 : decode cX10_entryOfLast 50 = .ok (.ifCond .ge 7, 3) := by decide +kernel
theorem dX10_entryOfLast_53 : decode cX10_entryOfLast 53 = .ok (.iconst (-1), 1) := by decide +kernel
theorem dX10_entryOfLast_54 : decode cX10_entryOfLast 54 = .ok (.goto 4, 3) := by decide +kernel
theorem dX10_entryOfLast_57 : decode cX10_entryOfLast 57 = .ok (.iload_n 2, 1) := by decide +kernel
theorem dX10_entryOfLast_58 : decode cX10_entryOfLast 58 = .ok (.ireturn, 1) := by decide +kernel
def J_X10_entryOfLast_58 (b0 fu : Nat)  (s0 : Int32) (σ : tM) : Option ((Int32) × tM) := some (s0, σ)
def m_X10_entryOfLast (b0 fu : Nat) (a0 : Nat) (p0 : Nat) (σ : tM) : Option ((Int32) × tM) := grw σ (ckO b0 (σ) (a0) 10 (osm (tA (σ) (a0) 5) (fun a3 => ckO b0 (σ) (a3) 9 (cll (m_X9_walkAhead b0 fu (a3) (p0) (σ)) (fun v7 ρ8 => ckO b0 (ρ8) (p0) 3 (if (0) ≤ (tI (sI (ρ8) (p0) 4 (v7)) (p0) 4) then if (tI (sI (ρ8) (p0) 4 (v7)) (p0) 3) ≤ (28) then ckO b0 (sI (ρ8) (p0) 4 (v7)) (a0) 10 (osm (tA (sI (ρ8) (p0) 4 (v7)) (a0) 2) (fun a16 => ckO b0 (sI (ρ8) (p0) 4 (v7)) (a16) 8 (cll (m_X8_findLast b0 fu (a16) (tI (sI (ρ8) (p0) 4 (v7)) (p0) 4) (p0) (sI (ρ8) (p0) 4 (v7))) (fun v20 ρ21 => if (0) ≤ (v20) then J_X10_entryOfLast_58 b0 fu   (v20) (ρ21) else J_X10_entryOfLast_58 b0 fu   ((-1)) (ρ21))))) else some ((-7), sI (ρ8) (p0) 4 (v7)) else some (tI (sI (ρ8) (p0) 4 (v7)) (p0) 4, sI (ρ8) (p0) 4 (v7))))))))
set_option maxRecDepth 100000 in
set_option maxHeartbeats 1000000 in
theorem j_X10_entryOfLast_58 {p : Program} {l : Launch} {e : Env} {s : State} {m : MethodId} {args : Array Value} {below : List Frame} {meth : Method} {c : Code} {D : va_G} {aC : Nat → ClassId} {b0 fu : Nat} {σ0 τ : tM} {v : Int32}  (C : tCx p l s m args meth c yX10_entryOfLast.cls cX10_entryOfLast 3 (some .int) D aC b0 σ0) (htab : ∀ x ∈ c.exceptionTable.toList, False) (hin : meth.name = yX10_entryOfLast.name)  {s0 : Int32} {σ : tM} (hm : J_X10_entryOfLast_58 b0 fu  s0 σ = some (v, τ)) : tX p l e s m args below meth c 3 6 150 D aC b0 σ0 (.inl (some (.int v))) τ 58 [] [.int (s0)] σ := by
  unfold J_X10_entryOfLast_58 at hm
  obtain ⟨rfl, rfl⟩ := ret_e hm
  exact zx_iret C rfl rfl rfl dX10_entryOfLast_58
set_option maxRecDepth 100000 in
set_option maxHeartbeats 1000000 in
theorem c_X10_entryOfLast {l : Launch} {D : va_G} {aC : Nat → ClassId} {b0 fu : Nat} {a0 : Nat} {p0 : Nat} {σ τ : tM} {v : Int32} (hm : m_X10_entryOfLast b0 fu a0 p0 σ = some (v, τ)) : tMt l D aC b0 yX10_entryOfLast (Cond.code yX10_entryOfLast cX10_entryOfLast 3 (some .int)) 6 150 [.ref (a0), .ref (p0)] σ (.inl (some (.int v))) τ := by
  unfold m_X10_entryOfLast at hm
  obtain ⟨hg, hm⟩ := grw_e hm
  refine tMt_of (n := 0) rfl (Nat.le_of_ble_eq_true rfl) hg ?_
  intro p e s m below meth c C htab hin
  refine zx_lv [0, 1] [(0, .ref (a0)), (1, .ref (p0))] rfl ?_
  refine zx_aload_n C dX10_entryOfLast_0 1 rfl ?_
  refine zx_aload_n C dX10_entryOfLast_1 0 rfl ?_
  obtain ⟨k1, i2, hm⟩ := ckO_e hm
  obtain ⟨a3, h4, hm⟩ := osm_e hm
  refine zx_get (j := 5) C tC_10 k1 i2 ⟨by decide, Or.inl W_2_218⟩ dX10_entryOfLast_2 (.ref a3) (rf_s h4) ?_
  refine zx_aload_n C dX10_entryOfLast_5 1 rfl ?_
  obtain ⟨k5, i6, hm⟩ := ckO_e hm
  obtain ⟨v7, ρ8, h9, hm⟩ := cll_e hm
  refine zx_callV (σ := σ) C [.ref (p0)] tC_9 k5 i6 Y_X9_walkAhead W_4_69 W_4_70 W_4_71 (c_X9_walkAhead h9) (by decide) (by decide) rfl (Nat.le_of_ble_eq_true rfl) dX10_entryOfLast_6 rfl ?_
  obtain ⟨k10, i11, hm⟩ := ckO_e hm
  refine zx_put (j := 4) (ρ := sI (ρ8) (p0) 4 (v7)) C tC_3 k10 i11 ⟨by decide, Or.inr ⟨_, W_2_69⟩⟩ rfl rfl rfl (sI_ok (fun _ => rfl)) dX10_entryOfLast_9 ?_
  refine zx_aload_n C dX10_entryOfLast_12 1 rfl ?_
  refine zx_get (j := 4) C tC_3 k10 i11 ⟨by decide, Or.inr ⟨_, W_2_69⟩⟩ dX10_entryOfLast_13 (.int (tI (sI (ρ8) (p0) 4 (v7)) (p0) 4)) rfl ?_
  refine zx_if_ge C 24 dX10_entryOfLast_16 (by decide) (fun c12 => ?_) (fun c12 => ?_)
  · replace hm := ip_e hm c12
    refine zx_aload_n C dX10_entryOfLast_24 1 rfl ?_
    refine zx_get (j := 3) C tC_3 k10 i11 ⟨by decide, Or.inr ⟨_, W_2_67⟩⟩ dX10_entryOfLast_25 (.int (tI (sI (ρ8) (p0) 4 (v7)) (p0) 3)) rfl ?_
    refine zx_bipush (v := 28) C dX10_entryOfLast_28 (by decide) ?_
    refine zx_icmp_le C 36 dX10_entryOfLast_30 (by decide) (fun c13 => ?_) (fun c13 => ?_)
    · replace hm := ip_e hm c13
      refine zx_aload_n C dX10_entryOfLast_36 0 rfl ?_
      obtain ⟨k14, i15, hm⟩ := ckO_e hm
      obtain ⟨a16, h17, hm⟩ := osm_e hm
      refine zx_get (j := 2) C tC_10 k14 i15 ⟨by decide, Or.inl W_2_215⟩ dX10_entryOfLast_37 (.ref a16) (rf_s h17) ?_
      refine zx_aload_n C dX10_entryOfLast_40 1 rfl ?_
      refine zx_get (j := 4) C tC_3 k10 i11 ⟨by decide, Or.inr ⟨_, W_2_69⟩⟩ dX10_entryOfLast_41 (.int (tI (sI (ρ8) (p0) 4 (v7)) (p0) 4)) rfl ?_
      refine zx_aload_n C dX10_entryOfLast_44 1 rfl ?_
      obtain ⟨k18, i19, hm⟩ := ckO_e hm
      obtain ⟨v20, ρ21, h22, hm⟩ := cll_e hm
      refine zx_callV (σ := sI (ρ8) (p0) 4 (v7)) C [.int (tI (sI (ρ8) (p0) 4 (v7)) (p0) 4), .ref (p0)] tC_8 k18 i19 Y_X8_findLast W_4_145 W_4_146 W_4_147 (c_X8_findLast h22) (by decide) (by decide) rfl (Nat.le_of_ble_eq_true rfl) dX10_entryOfLast_45 rfl ?_
      refine zx_istore_n C [(2, .int (v20)), (0, .ref (a0)), (1, .ref (p0))] dX10_entryOfLast_48 rfl (by decide) rfl ?_
      refine zx_iload_n C dX10_entryOfLast_49 0 rfl ?_
      refine zx_if_ge C 57 dX10_entryOfLast_50 (by decide) (fun c23 => ?_) (fun c23 => ?_)
      · replace hm := ip_e hm c23
        refine zx_iload_n C dX10_entryOfLast_57 0 rfl ?_
        exact zx_lv [] [] rfl (j_X10_entryOfLast_58 C htab hin    hm)
      · replace hm := in_e hm c23
        refine zx_iconst (v := (-1)) C dX10_entryOfLast_53 (by decide) ?_
        refine zx_goto C 58 dX10_entryOfLast_54 (by decide) ?_
        exact zx_lv [] [] rfl (j_X10_entryOfLast_58 C htab hin    hm)
    · replace hm := in_e hm c13
      refine zx_bipush (v := (-7)) C dX10_entryOfLast_33 (by decide) ?_
      obtain ⟨rfl, rfl⟩ := ret_e hm
      exact zx_iret C rfl rfl rfl dX10_entryOfLast_35
  · replace hm := in_e hm c12
    refine zx_aload_n C dX10_entryOfLast_19 1 rfl ?_
    refine zx_get (j := 4) C tC_3 k10 i11 ⟨by decide, Or.inr ⟨_, W_2_69⟩⟩ dX10_entryOfLast_20 (.int (tI (sI (ρ8) (p0) 4 (v7)) (p0) 4)) rfl ?_
    obtain ⟨rfl, rfl⟩ := ret_e hm
    exact zx_iret C rfl rfl rfl dX10_entryOfLast_23
abbrev cX10_finishMove : ByteArray := prog_1_method_17_code
def yX10_finishMove : MethodName := ⟨"SyncTree", "finishMove", "(IIII)V"⟩
theorem Y_X10_finishMove : tY yX10_finishMove cX10_finishMove 5 none 4 := ⟨W_5_118, W_1_1, ⟨by decide +kernel, by decide +kernel⟩, by decide +kernel⟩
theorem dX10_finishMove_0 : decode cX10_finishMove 0 = .ok (.aload_n 0, 1) := by decide +kernel
theorem dX10_finishMove_1 : decode cX10_finishMove 1 = .ok (.getfield 28, 3) := by decide +kernel
theorem dX10_finishMove_4 : decode cX10_finishMove 4 = .ok (.iload_n 1, 1) := by decide +kernel
theorem dX10_finishMove_5 : decode cX10_finishMove 5 = .ok (.invokevirtual 168, 3) := by decide +kernel
theorem dX10_finishMove_8 : decode cX10_finishMove 8 = .ok (.iconst 2, 1) := by decide +kernel
theorem dX10_finishMove_9 : decode cX10_finishMove 9 = .ok (.if_icmp .ne 12, 3) := by decide +kernel
theorem dX10_finishMove_12 : decode cX10_finishMove 12 = .ok (.aload_n 0, 1) := by decide +kernel
theorem dX10_finishMove_13 : decode cX10_finishMove 13 = .ok (.getfield 28, 3) := by decide +kernel
theorem dX10_finishMove_16 : decode cX10_finishMove 16 = .ok (.iload_n 1, 1) := by decide +kernel
theorem dX10_finishMove_17 : decode cX10_finishMove 17 = .ok (.iload_n 2, 1) := by decide +kernel
theorem dX10_finishMove_18 : decode cX10_finishMove 18 = .ok (.invokevirtual 215, 3) := by decide +kernel
theorem dX10_finishMove_21 : decode cX10_finishMove 21 = .ok (.aload_n 0, 1) := by decide +kernel
theorem dX10_finishMove_22 : decode cX10_finishMove 22 = .ok (.getfield 28, 3) := by decide +kernel
theorem dX10_finishMove_25 : decode cX10_finishMove 25 = .ok (.iload_n 3, 1) := by decide +kernel
theorem dX10_finishMove_26 : decode cX10_finishMove 26 = .ok (.iload 4, 2) := by decide +kernel
theorem dX10_finishMove_28 : decode cX10_finishMove 28 = .ok (.invokevirtual 187, 3) := by decide +kernel
theorem dX10_finishMove_31 : decode cX10_finishMove 31 = .ok (.return_, 1) := by decide +kernel
def J_X10_finishMove_21 (b0 fu : Nat)  (x0 : Nat) (x3 : Int32) (x4 : Int32) (σ : tM) : Option ((Unit) × tM) := ckO b0 (σ) (x0) 10 (osm (tA (σ) (x0) 2) (fun a13 => ckO b0 (σ) (a13) 8 (cll (m_X8_removeEntry b0 fu (a13) (x3) (x4) (σ)) (fun v17 ρ18 => some ((), ρ18)))))
def m_X10_finishMove (b0 fu : Nat) (a0 : Nat) (p0 : Int32) (p1 : Int32) (p2 : Int32) (p3 : Int32) (σ : tM) : Option ((Unit) × tM) := grw σ (ckO b0 (σ) (a0) 10 (osm (tA (σ) (a0) 2) (fun a3 => ckO b0 (σ) (a3) 8 (cll (m_X8_kind b0 fu (a3) (p0) (σ)) (fun v7 ρ8 => if (v7) = (2) then ckO b0 (ρ8) (a0) 10 (osm (tA (ρ8) (a0) 2) (fun a22 => ckO b0 (ρ8) (a22) 8 (cll (m_X8_setParent b0 fu (a22) (p0) (p1) (ρ8)) (fun v26 ρ27 => J_X10_finishMove_21 b0 fu   (a0) (p2) (p3) (ρ27))))) else J_X10_finishMove_21 b0 fu   (a0) (p2) (p3) (ρ8))))))
set_option maxRecDepth 100000 in
set_option maxHeartbeats 1000000 in
theorem j_X10_finishMove_21 {p : Program} {l : Launch} {e : Env} {s : State} {m : MethodId} {args : Array Value} {below : List Frame} {meth : Method} {c : Code} {D : va_G} {aC : Nat → ClassId} {b0 fu : Nat} {σ0 τ : tM} {v : Unit}  (C : tCx p l s m args meth c yX10_finishMove.cls cX10_finishMove 5 none D aC b0 σ0) (htab : ∀ x ∈ c.exceptionTable.toList, False) (hin : meth.name = yX10_finishMove.name)  {x0 : Nat} {x3 : Int32} {x4 : Int32} {σ : tM} (hm : J_X10_finishMove_21 b0 fu  x0 x3 x4 σ = some (v, τ)) : tX p l e s m args below meth c 5 5 120 D aC b0 σ0 (.inl none) τ 21 [(0, .ref (x0)), (3, .int (x3)), (4, .int (x4))] [] σ := by
  unfold J_X10_finishMove_21 at hm
  refine zx_aload_n C dX10_finishMove_21 0 rfl ?_
  obtain ⟨k11, i12, hm⟩ := ckO_e hm
  obtain ⟨a13, h14, hm⟩ := osm_e hm
  refine zx_get (j := 2) C tC_10 k11 i12 ⟨by decide, Or.inl W_2_215⟩ dX10_finishMove_22 (.ref a13) (rf_s h14) ?_
  refine zx_iload_n C dX10_finishMove_25 1 rfl ?_
  refine zx_iload C dX10_finishMove_26 2 rfl ?_
  obtain ⟨k15, i16, hm⟩ := ckO_e hm
  obtain ⟨v17, ρ18, h19, hm⟩ := cll_e hm
  refine zx_callV (σ := σ) C [.int (x3), .int (x4)] tC_8 k15 i16 Y_X8_removeEntry W_5_33 W_5_34 W_5_35 (c_X8_removeEntry h19) (by decide) (by decide) rfl (Nat.le_of_ble_eq_true rfl) dX10_finishMove_28 rfl ?_
  obtain ⟨rfl, rfl⟩ := ret_e hm
  exact zx_vret C rfl rfl rfl dX10_finishMove_31
set_option maxRecDepth 100000 in
set_option maxHeartbeats 1000000 in
theorem c_X10_finishMove {l : Launch} {D : va_G} {aC : Nat → ClassId} {b0 fu : Nat} {a0 : Nat} {p0 : Int32} {p1 : Int32} {p2 : Int32} {p3 : Int32} {σ τ : tM} {v : Unit} (hm : m_X10_finishMove b0 fu a0 p0 p1 p2 p3 σ = some (v, τ)) : tMt l D aC b0 yX10_finishMove (Cond.code yX10_finishMove cX10_finishMove 5 none) 5 120 [.ref (a0), .int (p0), .int (p1), .int (p2), .int (p3)] σ (.inl none) τ := by
  unfold m_X10_finishMove at hm
  obtain ⟨hg, hm⟩ := grw_e hm
  refine tMt_of (n := 0) rfl (Nat.le_of_ble_eq_true rfl) hg ?_
  intro p e s m below meth c C htab hin
  refine zx_lv [0, 1, 2, 3, 4] [(0, .ref (a0)), (1, .int (p0)), (2, .int (p1)), (3, .int (p2)), (4, .int (p3))] rfl ?_
  refine zx_aload_n C dX10_finishMove_0 0 rfl ?_
  obtain ⟨k1, i2, hm⟩ := ckO_e hm
  obtain ⟨a3, h4, hm⟩ := osm_e hm
  refine zx_get (j := 2) C tC_10 k1 i2 ⟨by decide, Or.inl W_2_215⟩ dX10_finishMove_1 (.ref a3) (rf_s h4) ?_
  refine zx_iload_n C dX10_finishMove_4 1 rfl ?_
  obtain ⟨k5, i6, hm⟩ := ckO_e hm
  obtain ⟨v7, ρ8, h9, hm⟩ := cll_e hm
  refine zx_callV (σ := σ) C [.int (p0)] tC_8 k5 i6 Y_X8_kind W_5_14 W_3_80 W_3_81 (c_X8_kind h9) (by decide) (by decide) rfl (Nat.le_of_ble_eq_true rfl) dX10_finishMove_5 rfl ?_
  refine zx_iconst (v := 2) C dX10_finishMove_8 (by decide) ?_
  refine zx_icmp_ne C 21 dX10_finishMove_9 (by decide) (fun c10 => ?_) (fun c10 => ?_)
  · replace hm := in_e hm c10
    exact zx_lv [0, 3, 4] [(0, .ref (a0)), (3, .int (p2)), (4, .int (p3))] rfl (j_X10_finishMove_21 C htab hin    hm)
  · replace hm := ip_e hm c10
    refine zx_aload_n C dX10_finishMove_12 0 rfl ?_
    obtain ⟨k20, i21, hm⟩ := ckO_e hm
    obtain ⟨a22, h23, hm⟩ := osm_e hm
    refine zx_get (j := 2) C tC_10 k20 i21 ⟨by decide, Or.inl W_2_215⟩ dX10_finishMove_13 (.ref a22) (rf_s h23) ?_
    refine zx_iload_n C dX10_finishMove_16 1 rfl ?_
    refine zx_iload_n C dX10_finishMove_17 2 rfl ?_
    obtain ⟨k24, i25, hm⟩ := ckO_e hm
    obtain ⟨v26, ρ27, h28, hm⟩ := cll_e hm
    refine zx_callV (σ := ρ8) C [.int (p0), .int (p1)] tC_8 k24 i25 Y_X8_setParent W_5_119 W_5_120 W_5_121 (c_X8_setParent h28) (by decide) (by decide) rfl (Nat.le_of_ble_eq_true rfl) dX10_finishMove_18 rfl ?_
    exact zx_lv [0, 3, 4] [(0, .ref (a0)), (3, .int (p2)), (4, .int (p3))] rfl (j_X10_finishMove_21 C htab hin    hm)
abbrev cX10_open : ByteArray := prog_1_method_20_code
def yX10_open : MethodName := ⟨"SyncTree", "open", "()I"⟩
theorem Y_X10_open : tY yX10_open cX10_open 3 (some .int) 0 := ⟨W_5_129, W_1_1, ⟨by decide +kernel, by decide +kernel⟩, by decide +kernel⟩
theorem dX10_open_0 : decode cX10_open 0 = .ok (.aload_n 0, 1) := by decide +kernel
theorem dX10_open_1 : decode cX10_open 1 = .ok (.getfield 12, 3) := by decide +kernel
theorem dX10_open_4 : decode cX10_open 4 = .ok (.invokevirtual 221, 3) := by decide +kernel
theorem dX10_open_7 : decode cX10_open 7 = .ok (.aload_n 0, 1) := by decide +kernel
theorem dX10_open_8 : decode cX10_open 8 = .ok (.getfield 55, 3) := by decide +kernel
theorem dX10_open_11 : decode cX10_open 11 = .ok (.aload_n 0, 1) := by decide +kernel
theorem dX10_open_12 : decode cX10_open 12 = .ok (.getfield 69, 3) := by decide +kernel
theorem dX10_open_15 : decode cX10_open 15 = .ok (.iconst 1, 1) := by decide +kernel
theorem dX10_open_16 : decode cX10_open 16 = .ok (.invokevirtual 164, 3) := by decide +kernel
theorem dX10_open_19 : decode cX10_open 19 = .ok (.istore_n 1, 1) := by decide +kernel
theorem dX10_open_20 : decode cX10_open 20 = .ok (.iload_n 1, 1) := by decide +kernel
theorem dX10_open_21 : decode cX10_open 21 = .ok (.ifCond .ge 5, 3) := by decide +kernel
theorem dX10_open_24 : decode cX10_open 24 = .ok (.iload_n 1, 1) := by decide +kernel
theorem dX10_open_25 : decode cX10_open 25 = .ok (.ireturn, 1) := by decide +kernel
theorem dX10_open_26 : decode cX10_open 26 = .ok (.aload_n 0, 1) := by decide +kernel
theorem dX10_open_27 : decode cX10_open 27 = .ok (.getfield 28, 3) := by decide +kernel
theorem dX10_open_30 : decode cX10_open 30 = .ok (.iload_n 1, 1) := by decide +kernel
theorem dX10_open_31 : decode cX10_open 31 = .ok (.invokevirtual 168, 3) := by decide +kernel
theorem dX10_open_34 : decode cX10_open 34 = .ok (.iconst 2, 1) := by decide +kernel
theorem dX10_open_35 : decode cX10_open 35 = .ok (.if_icmp .ne 6, 3) := by decide +kernel
theorem dX10_open_38 : decode cX10_open 38 = .ok (.bipush (-4), 2) := by decide +kernel
theorem dX10_open_40 : decode cX10_open 40 = .ok (.ireturn, 1) := by decide +kernel
theorem dX10_open_41 : decode cX10_open 41 = .ok (.iconst 0, 1) := by decide +kernel
theorem dX10_open_42 : decode cX10_open 42 = .ok (.istore_n 2, 1) := by decide +kernel
theorem dX10_open_43 : decode cX10_open 43 = .ok (.iload_n 2, 1) := by decide +kernel
theorem dX10_open_44 : decode cX10_open 44 = .ok (.bipush 16, 2) := by decide +kernel
theorem dX10_open_46 : decode cX10_open 46 = .ok (.if_icmp .ge 27, 3) := by decide +kernel
theorem dX10_open_49 : decode cX10_open 49 = .ok (.aload_n 0, 1) := by decide +kernel
theorem dX10_open_50 : decode cX10_open 50 = .ok (.getfield 76, 3) := by decide +kernel
theorem dX10_open_53 : decode cX10_open 53 = .ok (.iload_n 2, 1) := by decide +kernel
theorem dX10_open_54 : decode cX10_open 54 = .ok (.iaload, 1) := by decide +kernel
theorem dX10_open_55 : decode cX10_open 55 = .ok (.ifCond .ge 12, 3) := by decide +kernel
theorem dX10_open_58 : decode cX10_open 58 = .ok (.aload_n 0, 1) := by decide +kernel
theorem dX10_open_59 : decode cX10_open 59 = .ok (.getfield 76, 3) := by decide +kernel
theorem dX10_open_62 : decode cX10_open 62 = .ok (.iload_n 2, 1) := by decide +kernel
theorem dX10_open_63 : decode cX10_open 63 = .ok (.iload_n 1, 1) := by decide +kernel
theorem dX10_open_64 : decode cX10_open 64 = .ok (.iastore, 1) := by decide +kernel
theorem dX10_open_65 : decode cX10_open 65 = .ok (.iload_n 2, 1) := by decide +kernel
theorem dX10_open_66 : decode cX10_open 66 = .ok (.ireturn, 1) := by decide +kernel
theorem dX10_open_67 : decode cX10_open 67 = .ok (.iinc 2 1, 3) := by decide +kernel
theorem dX10_open_70 : decode cX10_open 70 = .ok (.goto (-27), 3) := by decide +kernel
theorem dX10_open_73 : decode cX10_open 73 = .ok (.bipush (-10), 2) := by decide +kernel
theorem dX10_open_75 : decode cX10_open 75 = .ok (.ireturn, 1) := by decide +kernel
def L_X10_open_43 (b0 fu : Nat)  : Nat → Nat → Int32 → Int32 → tM → Option (((Int32) ⊕ Unit) × tM)
  | 0, _, _, _, _ => none
  | n + 1, x0, x1, x2, σ => ltb (L_X10_open_43 b0 fu  n) (fun rc43 => if (16) ≤ (x2) then some (.inl ((-10)), σ) else ckO b0 (σ) (x0) 10 (osm (tA (σ) (x0) 9) (fun a35 => ckR b0 (σ) (a35) 0 (fun n39 => ckI (x2) (n39) (if (0) ≤ (tI (σ) (a35) ((x2).toNatClampNeg)) then ltb ((x2) + Int32.ofInt 1) (fun y42 => rc43 (x0) (x1) (y42) (σ)) else osm (tA (σ) (x0) 9) (fun a43 => ckR b0 (σ) (a43) 0 (fun n47 => ckI (x2) (n47) (some (.inl (x2), sI (σ) (a43) ((x2).toNatClampNeg) (x1))))))))))
def m_X10_open (b0 fu : Nat) (a0 : Nat) (σ : tM) : Option (((Int32) ⊕ Unit) × tM) := grw σ (ckO b0 (σ) (a0) 10 (osm (tA (σ) (a0) 0) (fun a3 => ckO b0 (σ) (a3) 0 (clx (m_X0_demandPower b0 fu (a3) (σ)) (fun v7 ρ8 => ckO b0 (ρ8) (a0) 10 (osm (tA (ρ8) (a0) 5) (fun a12 => osm (tA (ρ8) (a0) 7) (fun a14 => ckO b0 (ρ8) (a12) 9 (cll (m_X9_walkWhole b0 fu (a12) (a14) (1) (ρ8)) (fun v18 ρ19 => if (0) ≤ (v18) then ckO b0 (ρ19) (a0) 10 (osm (tA (ρ19) (a0) 2) (fun a24 => ckO b0 (ρ19) (a24) 8 (cll (m_X8_kind b0 fu (a24) (v18) (ρ19)) (fun v28 ρ29 => if (v28) = (2) then some (.inl ((-4)), ρ29) else L_X10_open_43 b0 fu  (fu) (a0) (v18) (0) (ρ29))))) else some (.inl (v18), ρ19)))))))))))
set_option maxRecDepth 100000 in
set_option maxHeartbeats 1000000 in
theorem l_X10_open_43 {p : Program} {l : Launch} {e : Env} {s : State} {m : MethodId} {args : Array Value} {below : List Frame} {meth : Method} {c : Code} {D : va_G} {aC : Nat → ClassId} {b0 fu : Nat} {σ0 τ : tM} {v : (Int32) ⊕ Unit}  (C : tCx p l s m args meth c yX10_open.cls cX10_open 3 (some .int) D aC b0 σ0) (htab : ∀ x ∈ c.exceptionTable.toList, False) (hin : meth.name = yX10_open.name)  : ∀ (n : Nat) (x0 : Nat) (x1 : Int32) (x2 : Int32) (σ : tM), L_X10_open_43 b0 fu  n x0 x1 x2 σ = some (v, τ) → tX p l e s m args below meth c 3 7 150 D aC b0 σ0 (rxI "java/lang/IllegalStateException" v) τ 43 [(0, .ref (x0)), (1, .int (x1)), (2, .int (x2))] [] σ := by
  intro n
  induction n with
  | zero => intro x0 x1 x2 σ hm; unfold L_X10_open_43 at hm; cases hm
  | succ n ih =>
    intro x0 x1 x2 σ hm
    unfold L_X10_open_43 at hm
    obtain ⟨rc43, hrc⟩ : ∃ z, z = L_X10_open_43 b0 fu  n := ⟨_, rfl⟩
    replace hm := ltb_e hm hrc
    rw [← hrc] at ih
    have hrc43 := ih
    clear ih hrc
    refine zx_iload_n C dX10_open_43 2 rfl ?_
    refine zx_bipush (v := 16) C dX10_open_44 (by decide) ?_
    refine zx_icmp_ge C 73 dX10_open_46 (by decide) (fun c32 => ?_) (fun c32 => ?_)
    · replace hm := ip_e hm c32
      refine zx_bipush (v := (-10)) C dX10_open_73 (by decide) ?_
      obtain ⟨rfl, rfl⟩ := ret_e hm
      exact zx_iret C rfl rfl rfl dX10_open_75
    · replace hm := in_e hm c32
      refine zx_aload_n C dX10_open_49 0 rfl ?_
      obtain ⟨k33, i34, hm⟩ := ckO_e hm
      obtain ⟨a35, h36, hm⟩ := osm_e hm
      refine zx_get (j := 9) C tC_10 k33 i34 ⟨by decide, Or.inl W_2_222⟩ dX10_open_50 (.ref a35) (rf_s h36) ?_
      refine zx_iload_n C dX10_open_53 2 rfl ?_
      obtain ⟨n39, k37, i38, hm⟩ := ckR_e hm
      obtain ⟨h40, hm⟩ := ckI_e hm
      refine zx_iald C k37 i38 h40 dX10_open_54 ?_
      refine zx_if_ge C 67 dX10_open_55 (by decide) (fun c41 => ?_) (fun c41 => ?_)
      · replace hm := ip_e hm c41
        obtain ⟨y42, hy42⟩ : ∃ z : Int32, z = (x2) + Int32.ofInt 1 := ⟨_, rfl⟩
        replace hm := ltb_e hm hy42
        refine zx_iinc C [(2, .int (y42)), (0, .ref (x0)), (1, .int (x1))] dX10_open_67 2 rfl hy42.symm (by decide) rfl ?_
        refine zx_goto C 43 dX10_open_70 (by decide) ?_
        exact zx_lv [1, 2, 0] [(0, .ref (x0)), (1, .int (x1)), (2, .int (y42))] rfl (hrc43 _ _ _ _ hm)
      · replace hm := in_e hm c41
        refine zx_aload_n C dX10_open_58 0 rfl ?_
        obtain ⟨a43, h44, hm⟩ := osm_e hm
        refine zx_get (j := 9) C tC_10 k33 i34 ⟨by decide, Or.inl W_2_222⟩ dX10_open_59 (.ref a43) (rf_s h44) ?_
        refine zx_iload_n C dX10_open_62 2 rfl ?_
        refine zx_iload_n C dX10_open_63 1 rfl ?_
        obtain ⟨n47, k45, i46, hm⟩ := ckR_e hm
        obtain ⟨h48, hm⟩ := ckI_e hm
        refine zx_iast C k45 i46 h48 dX10_open_64 ?_
        refine zx_iload_n C dX10_open_65 2 rfl ?_
        obtain ⟨rfl, rfl⟩ := ret_e hm
        exact zx_iret C rfl rfl rfl dX10_open_66
set_option maxRecDepth 100000 in
set_option maxHeartbeats 1000000 in
theorem c_X10_open {l : Launch} {D : va_G} {aC : Nat → ClassId} {b0 fu : Nat} {a0 : Nat} {σ τ : tM} {v : (Int32) ⊕ Unit} (hm : m_X10_open b0 fu a0 σ = some (v, τ)) : tMt l D aC b0 yX10_open (Cond.code yX10_open cX10_open 3 (some .int)) 7 150 [.ref (a0)] σ (rxI "java/lang/IllegalStateException" v) τ := by
  unfold m_X10_open at hm
  obtain ⟨hg, hm⟩ := grw_e hm
  refine tMt_of (n := 0) rfl (Nat.le_of_ble_eq_true rfl) hg ?_
  intro p e s m below meth c C htab hin
  refine zx_lv [0] [(0, .ref (a0))] rfl ?_
  refine zx_aload_n C dX10_open_0 0 rfl ?_
  obtain ⟨k1, i2, hm⟩ := ckO_e hm
  obtain ⟨a3, h4, hm⟩ := osm_e hm
  refine zx_get (j := 0) C tC_10 k1 i2 ⟨by decide, Or.inl W_2_213⟩ dX10_open_1 (.ref a3) (rf_s h4) ?_
  obtain ⟨k5, i6, hm⟩ := ckO_e hm
  rcases clx_e hm with ⟨v7, ρ8, h9, hm⟩ | ⟨ρ8, h9, hm⟩
  · refine zx_callV (σ := σ) C [] tC_0 k5 i6 Y_X0_demandPower W_5_130 W_3_113 W_3_114 (c_X0_demandPower h9) (by decide) (by decide) rfl (Nat.le_of_ble_eq_true rfl) dX10_open_4 rfl ?_
    refine zx_aload_n C dX10_open_7 0 rfl ?_
    obtain ⟨k10, i11, hm⟩ := ckO_e hm
    obtain ⟨a12, h13, hm⟩ := osm_e hm
    refine zx_get (j := 5) C tC_10 k10 i11 ⟨by decide, Or.inl W_2_218⟩ dX10_open_8 (.ref a12) (rf_s h13) ?_
    refine zx_aload_n C dX10_open_11 0 rfl ?_
    obtain ⟨a14, h15, hm⟩ := osm_e hm
    refine zx_get (j := 7) C tC_10 k10 i11 ⟨by decide, Or.inl W_2_220⟩ dX10_open_12 (.ref a14) (rf_s h15) ?_
    refine zx_iconst (v := 1) C dX10_open_15 (by decide) ?_
    obtain ⟨k16, i17, hm⟩ := ckO_e hm
    obtain ⟨v18, ρ19, h20, hm⟩ := cll_e hm
    refine zx_callV (σ := ρ8) C [.ref (a14), .int (1)] tC_9 k16 i17 Y_X9_walkWhole W_5_10 W_5_11 W_5_12 (c_X9_walkWhole h20) (by decide) (by decide) rfl (Nat.le_of_ble_eq_true rfl) dX10_open_16 rfl ?_
    refine zx_istore_n C [(1, .int (v18)), (0, .ref (a0))] dX10_open_19 rfl (by decide) rfl ?_
    refine zx_iload_n C dX10_open_20 0 rfl ?_
    refine zx_if_ge C 26 dX10_open_21 (by decide) (fun c21 => ?_) (fun c21 => ?_)
    · replace hm := ip_e hm c21
      refine zx_aload_n C dX10_open_26 1 rfl ?_
      obtain ⟨k22, i23, hm⟩ := ckO_e hm
      obtain ⟨a24, h25, hm⟩ := osm_e hm
      refine zx_get (j := 2) C tC_10 k22 i23 ⟨by decide, Or.inl W_2_215⟩ dX10_open_27 (.ref a24) (rf_s h25) ?_
      refine zx_iload_n C dX10_open_30 0 rfl ?_
      obtain ⟨k26, i27, hm⟩ := ckO_e hm
      obtain ⟨v28, ρ29, h30, hm⟩ := cll_e hm
      refine zx_callV (σ := ρ19) C [.int (v18)] tC_8 k26 i27 Y_X8_kind W_5_14 W_3_80 W_3_81 (c_X8_kind h30) (by decide) (by decide) rfl (Nat.le_of_ble_eq_true rfl) dX10_open_31 rfl ?_
      refine zx_iconst (v := 2) C dX10_open_34 (by decide) ?_
      refine zx_icmp_ne C 41 dX10_open_35 (by decide) (fun c31 => ?_) (fun c31 => ?_)
      · replace hm := in_e hm c31
        refine zx_iconst (v := 0) C dX10_open_41 (by decide) ?_
        refine zx_istore_n C [(2, .int (0)), (1, .int (v18)), (0, .ref (a0))] dX10_open_42 rfl (by decide) rfl ?_
        exact zx_lv [2, 1, 0] [(0, .ref (a0)), (1, .int (v18)), (2, .int (0))] rfl (l_X10_open_43 C htab hin  _ _ _ _ _ hm)
      · replace hm := ip_e hm c31
        refine zx_bipush (v := (-4)) C dX10_open_38 (by decide) ?_
        obtain ⟨rfl, rfl⟩ := ret_e hm
        exact zx_iret C rfl rfl rfl dX10_open_40
    · replace hm := in_e hm c21
      refine zx_iload_n C dX10_open_24 0 rfl ?_
      obtain ⟨rfl, rfl⟩ := ret_e hm
      exact zx_iret C rfl rfl rfl dX10_open_25
  · cases hm
    exact zx_outV (σ := σ) C htab [] tC_0 k5 i6 Y_X0_demandPower W_5_130 W_3_113 W_3_114 (c_X0_demandPower h9) rfl (by decide) (by decide) rfl (Nat.le_of_ble_eq_true rfl) dX10_open_4 rfl
