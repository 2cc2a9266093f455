abbrev cX12_bytesAgain : ByteArray := prog_13_method_65_code
def yX12_bytesAgain : MethodName := ⟨"SyncTreeModel", "bytesAgain", "()V"⟩
theorem Y_X12_bytesAgain : tY yX12_bytesAgain cX12_bytesAgain 5 none 0 := ⟨W_9_113, W_1_14, ⟨by decide +kernel, by decide +kernel⟩, by decide +kernel⟩
theorem dX12_bytesAgain_0 : decode cX12_bytesAgain 0 = .ok (.iconst 0, 1) := by decide +kernel
theorem dX12_bytesAgain_1 : decode cX12_bytesAgain 1 = .ok (.istore_n 1, 1) := by decide +kernel
theorem dX12_bytesAgain_2 : decode cX12_bytesAgain 2 = .ok (.iload_n 1, 1) := by decide +kernel
theorem dX12_bytesAgain_3 : decode cX12_bytesAgain 3 = .ok (.aload_n 0, 1) := by decide +kernel
theorem dX12_bytesAgain_4 : decode cX12_bytesAgain 4 = .ok (.getfield 41, 3) := by decide +kernel
theorem dX12_bytesAgain_7 : decode cX12_bytesAgain 7 = .ok (.if_icmp .ge 115, 3) := by decide +kernel
theorem dX12_bytesAgain_10 : decode cX12_bytesAgain 10 = .ok (.aload_n 0, 1) := by decide +kernel
theorem dX12_bytesAgain_11 : decode cX12_bytesAgain 11 = .ok (.iload_n 1, 1) := by decide +kernel
theorem dX12_bytesAgain_12 : decode cX12_bytesAgain 12 = .ok (.invokevirtual 240, 3) := by decide +kernel
theorem dX12_bytesAgain_15 : decode cX12_bytesAgain 15 = .ok (.istore_n 2, 1) := by decide +kernel
theorem dX12_bytesAgain_16 : decode cX12_bytesAgain 16 = .ok (.aload_n 0, 1) := by decide +kernel
theorem dX12_bytesAgain_17 : decode cX12_bytesAgain 17 = .ok (.getfield 13, 3) := by decide +kernel
theorem dX12_bytesAgain_20 : decode cX12_bytesAgain 20 = .ok (.iload_n 1, 1) := by decide +kernel
theorem dX12_bytesAgain_21 : decode cX12_bytesAgain 21 = .ok (.iconst 0, 1) := by decide +kernel
theorem dX12_bytesAgain_22 : decode cX12_bytesAgain 22 = .ok (.invokestatic 233, 3) := by decide +kernel
theorem dX12_bytesAgain_25 : decode cX12_bytesAgain 25 = .ok (.iaload, 1) := by decide +kernel
theorem dX12_bytesAgain_26 : decode cX12_bytesAgain 26 = .ok (.iconst 1, 1) := by decide +kernel
theorem dX12_bytesAgain_27 : decode cX12_bytesAgain 27 = .ok (.if_icmp .ne 36, 3) := by decide +kernel
theorem dX12_bytesAgain_30 : decode cX12_bytesAgain 30 = .ok (.aload_n 0, 1) := by decide +kernel
theorem dX12_bytesAgain_31 : decode cX12_bytesAgain 31 = .ok (.getfield 68, 3) := by decide +kernel
theorem dX12_bytesAgain_34 : decode cX12_bytesAgain 34 = .ok (.iload_n 2, 1) := by decide +kernel
theorem dX12_bytesAgain_35 : decode cX12_bytesAgain 35 = .ok (.iaload, 1) := by decide +kernel
theorem dX12_bytesAgain_36 : decode cX12_bytesAgain 36 = .ok (.iconst 3, 1) := by decide +kernel
theorem dX12_bytesAgain_37 : decode cX12_bytesAgain 37 = .ok (.if_icmp .ne 26, 3) := by decide +kernel
theorem dX12_bytesAgain_40 : decode cX12_bytesAgain 40 = .ok (.aload_n 0, 1) := by decide +kernel
theorem dX12_bytesAgain_41 : decode cX12_bytesAgain 41 = .ok (.getfield 74, 3) := by decide +kernel
theorem dX12_bytesAgain_44 : decode cX12_bytesAgain 44 = .ok (.iload_n 2, 1) := by decide +kernel
theorem dX12_bytesAgain_45 : decode cX12_bytesAgain 45 = .ok (.iaload, 1) := by decide +kernel
theorem dX12_bytesAgain_46 : decode cX12_bytesAgain 46 = .ok (.aload_n 0, 1) := by decide +kernel
theorem dX12_bytesAgain_47 : decode cX12_bytesAgain 47 = .ok (.getfield 13, 3) := by decide +kernel
theorem dX12_bytesAgain_50 : decode cX12_bytesAgain 50 = .ok (.iload_n 1, 1) := by decide +kernel
theorem dX12_bytesAgain_51 : decode cX12_bytesAgain 51 = .ok (.iconst 1, 1) := by decide +kernel
theorem dX12_bytesAgain_52 : decode cX12_bytesAgain 52 = .ok (.invokestatic 233, 3) := by decide +kernel
theorem dX12_bytesAgain_55 : decode cX12_bytesAgain 55 = .ok (.iaload, 1) := by decide +kernel
theorem dX12_bytesAgain_56 : decode cX12_bytesAgain 56 = .ok (.if_icmp .ne 7, 3) := by decide +kernel
theorem dX12_bytesAgain_59 : decode cX12_bytesAgain 59 = .ok (.iconst 1, 1) := by decide +kernel
theorem dX12_bytesAgain_60 : decode cX12_bytesAgain 60 = .ok (.goto 4, 3) := by decide +kernel
theorem dX12_bytesAgain_63 : decode cX12_bytesAgain 63 = .ok (.iconst 0, 1) := by decide +kernel
theorem dX12_bytesAgain_64 : decode cX12_bytesAgain 64 = .ok (.istore_n 3, 1) := by decide +kernel
theorem dX12_bytesAgain_65 : decode cX12_bytesAgain 65 = .ok (.iconst 0, 1) := by decide +kernel
theorem dX12_bytesAgain_66 : decode cX12_bytesAgain 66 = .ok (.istore 4, 2) := by decide +kernel
theorem dX12_bytesAgain_68 : decode cX12_bytesAgain 68 = .ok (.iload 4, 2) := by decide +kernel
theorem dX12_bytesAgain_70 : decode cX12_bytesAgain 70 = .ok (.sipush 256, 3) := by decide +kernel
theorem dX12_bytesAgain_73 : decode cX12_bytesAgain 73 = .ok (.if_icmp .ge 43, 3) := by decide +kernel
theorem dX12_bytesAgain_76 : decode cX12_bytesAgain 76 = .ok (.aload_n 0, 1) := by decide +kernel
theorem dX12_bytesAgain_77 : decode cX12_bytesAgain 77 = .ok (.getfield 102, 3) := by decide +kernel
theorem dX12_bytesAgain_80 : decode cX12_bytesAgain 80 = .ok (.sipush 256, 3) := by decide +kernel
theorem dX12_bytesAgain_83 : decode cX12_bytesAgain 83 = .ok (.iload_n 1, 1) := by decide +kernel
theorem dX12_bytesAgain_84 : decode cX12_bytesAgain 84 = .ok (.imul, 1) := by decide +kernel
theorem dX12_bytesAgain_85 : decode cX12_bytesAgain 85 = .ok (.iload 4, 2) := by decide +kernel
theorem dX12_bytesAgain_87 : decode cX12_bytesAgain 87 = .ok (.iadd, 1) := by decide +kernel
theorem dX12_bytesAgain_88 : decode cX12_bytesAgain 88 = .ok (.iload_n 3, 1) := by decide +kernel
theorem dX12_bytesAgain_89 : decode cX12_bytesAgain 89 = .ok (.ifCond .eq 19, 3) := by decide +kernel
theorem dX12_bytesAgain_92 : decode cX12_bytesAgain 92 = .ok (.aload_n 0, 1) := by decide +kernel
theorem dX12_bytesAgain_93 : decode cX12_bytesAgain 93 = .ok (.getfield 84, 3) := by decide +kernel
theorem dX12_bytesAgain_96 : decode cX12_bytesAgain 96 = .ok (.sipush 256, 3) := by decide +kernel
theorem dX12_bytesAgain_99 : decode cX12_bytesAgain 99 = .ok (.iload_n 1, 1) := by decide +kernel
theorem dX12_bytesAgain_100 : decode cX12_bytesAgain 100 = .ok (.imul, 1) := by decide +kernel
theorem dX12_bytesAgain_101 : decode cX12_bytesAgain 101 = .ok (.iload 4, 2) := by decide +kernel
theorem dX12_bytesAgain_103 : decode cX12_bytesAgain 103 = .ok (.iadd, 1) := by decide +kernel
theorem dX12_bytesAgain_104 : decode cX12_bytesAgain 104 = .ok (.baload, 1) := by decide +kernel
theorem dX12_bytesAgain_105 : decode cX12_bytesAgain 105 = .ok (.goto 4, 3) := by decide +kernel
theorem dX12_bytesAgain_108 : decode cX12_bytesAgain 108 = .ok (.iconst 0, 1) := by decide +kernel
theorem dX12_bytesAgain_109 : decode cX12_bytesAgain 109 = .ok (.bastore, 1) := by decide +kernel
theorem dX12_bytesAgain_110 : decode cX12_bytesAgain 110 = .ok (.iinc 4 1, 3) := by decide +kernel
theorem dX12_bytesAgain_113 : decode cX12_bytesAgain 113 = .ok (.goto (-45), 3) := by decide +kernel
theorem dX12_bytesAgain_116 : decode cX12_bytesAgain 116 = .ok (.iinc 1 1, 3) := by decide +kernel
theorem dX12_bytesAgain_119 : decode cX12_bytesAgain 119 = .ok (.goto (-117), 3) := by decide +kernel
theorem dX12_bytesAgain_122 : decode cX12_bytesAgain 122 = .ok (.return_, 1) := by decide +kernel
def J_X12_bytesAgain_109 (b0 fu : Nat) (rc2 : Nat → Int32 → tM → Option ((Unit) × tM)) (rc68 : Nat → Int32 → Int32 → Int32 → tM → Option ((Unit) × tM)) (x0 : Nat) (x1 : Int32) (x3 : Int32) (x4 : Int32) (s0 : Nat) (s1 : Int32) (s2 : Int32) (σ : tM) : Option ((Unit) × tM) := ckR b0 (σ) (s0) 1 (fun n28 => ckI (s1) (n28) (ltb ((x4) + Int32.ofInt 1) (fun y30 => rc68 (x0) (x1) (x3) (y30) (sI (σ) (s0) ((s1).toNatClampNeg) (vp_nar .byte (s2))))))
def L_X12_bytesAgain_68 (b0 fu : Nat) (rc2 : Nat → Int32 → tM → Option ((Unit) × tM)) : Nat → Nat → Int32 → Int32 → Int32 → tM → Option ((Unit) × tM)
  | 0, _, _, _, _, _ => none
  | n + 1, x0, x1, x3, x4, σ => ltb (L_X12_bytesAgain_68 b0 fu rc2 n) (fun rc68 => if (256) ≤ (x4) then ltb ((x1) + Int32.ofInt 1) (fun y20 => rc2 (x0) (y20) (σ)) else ckO b0 (σ) (x0) 11 (osm (tA (σ) (x0) 22) (fun a23 => if (x3) = (0) then J_X12_bytesAgain_109 b0 fu rc2 rc68  (x0) (x1) (x3) (x4) (a23) (((256) * (x1)) + (x4)) (0) (σ) else osm (tA (σ) (x0) 10) (fun a31 => ckR b0 (σ) (a31) 1 (fun n35 => ckI (((256) * (x1)) + (x4)) (n35) (J_X12_bytesAgain_109 b0 fu rc2 rc68  (x0) (x1) (x3) (x4) (a23) (((256) * (x1)) + (x4)) (tI (σ) (a31) ((((256) * (x1)) + (x4)).toNatClampNeg)) (σ)))))))
def J_X12_bytesAgain_64 (b0 fu : Nat) (rc2 : Nat → Int32 → tM → Option ((Unit) × tM)) (x0 : Nat) (x1 : Int32) (s0 : Int32) (σ : tM) : Option ((Unit) × tM) := L_X12_bytesAgain_68 b0 fu rc2 (fu) (x0) (x1) (s0) (0) (σ)
def J_X12_bytesAgain_63 (b0 fu : Nat) (rc2 : Nat → Int32 → tM → Option ((Unit) × tM)) (x0 : Nat) (x1 : Int32) (σ : tM) : Option ((Unit) × tM) := J_X12_bytesAgain_64 b0 fu rc2  (x0) (x1) (0) (σ)
def L_X12_bytesAgain_2 (b0 fu : Nat)  : Nat → Nat → Int32 → tM → Option ((Unit) × tM)
  | 0, _, _, _ => none
  | n + 1, x0, x1, σ => ltb (L_X12_bytesAgain_2 b0 fu  n) (fun rc2 => ckO b0 (σ) (x0) 11 (if (tI (σ) (x0) 7) ≤ (x1) then some ((), σ) else cll (m_X12_numberOf b0 fu (x0) (x1) (σ)) (fun v4 ρ5 => ckO b0 (ρ5) (x0) 11 (osm (tA (ρ5) (x0) 1) (fun a9 => cll (m_X12_room b0 fu (x1) (0) (ρ5)) (fun v11 ρ12 => ckR b0 (ρ12) (a9) 0 (fun n16 => ckI (v11) (n16) (if (tI (ρ12) (a9) ((v11).toNatClampNeg)) = (1) then ckO b0 (ρ12) (x0) 11 (osm (tA (ρ12) (x0) 8) (fun a39 => ckR b0 (ρ12) (a39) 0 (fun n43 => ckI (v4) (n43) (if (tI (ρ12) (a39) ((v4).toNatClampNeg)) = (3) then osm (tA (ρ12) (x0) 9) (fun a46 => ckR b0 (ρ12) (a46) 0 (fun n50 => ckI (v4) (n50) (osm (tA (ρ12) (x0) 1) (fun a52 => cll (m_X12_room b0 fu (x1) (1) (ρ12)) (fun v54 ρ55 => ckR b0 (ρ55) (a52) 0 (fun n59 => ckI (v54) (n59) (if (tI (ρ12) (a46) ((v4).toNatClampNeg)) = (tI (ρ55) (a52) ((v54).toNatClampNeg)) then J_X12_bytesAgain_64 b0 fu rc2  (x0) (x1) (1) (ρ55) else J_X12_bytesAgain_63 b0 fu rc2  (x0) (x1) (ρ55)))))))) else J_X12_bytesAgain_63 b0 fu rc2  (x0) (x1) (ρ12))))) else J_X12_bytesAgain_63 b0 fu rc2  (x0) (x1) (ρ12)))))))))
def m_X12_bytesAgain (b0 fu : Nat) (a0 : Nat) (σ : tM) : Option ((Unit) × tM) := grw σ (L_X12_bytesAgain_2 b0 fu  (fu) (a0) (0) (σ))
set_option maxRecDepth 100000 in
set_option maxHeartbeats 1000000 in
theorem j_X12_bytesAgain_109 {p : Program} {l : Launch} {e : Env} {s : State} {m : MethodId} {args : Array Value} {below : List Frame} {meth : Method} {c : Code} {D : va_G} {aC : Nat → ClassId} {b0 fu : Nat} {σ0 τ : tM} {v : Unit} {rc2 : Nat → Int32 → tM → Option ((Unit) × tM)} {rc68 : Nat → Int32 → Int32 → Int32 → tM → Option ((Unit) × tM)} (C : tCx p l s m args meth c yX12_bytesAgain.cls cX12_bytesAgain 5 none D aC b0 σ0) (htab : ∀ x ∈ c.exceptionTable.toList, False) (hin : meth.name = yX12_bytesAgain.name) (hrc2 : ∀ (x0 : Nat) (x1 : Int32) (ρ : tM), rc2 x0 x1 ρ = some (v, τ) → tX p l e s m args below meth c 5 1 21 D aC b0 σ0 (.inl none) τ 2 [(0, .ref (x0)), (1, .int (x1))] [] ρ) (hrc68 : ∀ (x0 : Nat) (x1 : Int32) (x3 : Int32) (x4 : Int32) (ρ : tM), rc68 x0 x1 x3 x4 ρ = some (v, τ) → tX p l e s m args below meth c 5 1 21 D aC b0 σ0 (.inl none) τ 68 [(0, .ref (x0)), (1, .int (x1)), (3, .int (x3)), (4, .int (x4))] [] ρ) {x0 : Nat} {x1 : Int32} {x3 : Int32} {x4 : Int32} {s0 : Nat} {s1 : Int32} {s2 : Int32} {σ : tM} (hm : J_X12_bytesAgain_109 b0 fu rc2 rc68 x0 x1 x3 x4 s0 s1 s2 σ = some (v, τ)) : tX p l e s m args below meth c 5 1 21 D aC b0 σ0 (.inl none) τ 109 [(0, .ref (x0)), (1, .int (x1)), (3, .int (x3)), (4, .int (x4))] [.int (s2), .int (s1), .ref (s0)] σ := by
  unfold J_X12_bytesAgain_109 at hm
  obtain ⟨n28, k26, i27, hm⟩ := ckR_e hm
  obtain ⟨h29, hm⟩ := ckI_e hm
  refine zx_bast C k26 i27 h29 dX12_bytesAgain_109 ?_
  obtain ⟨y30, hy30⟩ : ∃ z : Int32, z = (x4) + Int32.ofInt 1 := ⟨_, rfl⟩
  replace hm := ltb_e hm hy30
  refine zx_iinc C [(4, .int (y30)), (0, .ref (x0)), (1, .int (x1)), (3, .int (x3))] dX12_bytesAgain_110 3 rfl hy30.symm (by decide) rfl ?_
  refine zx_goto C 68 dX12_bytesAgain_113 (by decide) ?_
  exact zx_lv [1, 2, 3, 0] [(0, .ref (x0)), (1, .int (x1)), (3, .int (x3)), (4, .int (y30))] rfl (hrc68 _ _ _ _ _ hm)
set_option maxRecDepth 100000 in
set_option maxHeartbeats 1000000 in
theorem l_X12_bytesAgain_68 {p : Program} {l : Launch} {e : Env} {s : State} {m : MethodId} {args : Array Value} {below : List Frame} {meth : Method} {c : Code} {D : va_G} {aC : Nat → ClassId} {b0 fu : Nat} {σ0 τ : tM} {v : Unit} {rc2 : Nat → Int32 → tM → Option ((Unit) × tM)} (C : tCx p l s m args meth c yX12_bytesAgain.cls cX12_bytesAgain 5 none D aC b0 σ0) (htab : ∀ x ∈ c.exceptionTable.toList, False) (hin : meth.name = yX12_bytesAgain.name) (hrc2 : ∀ (x0 : Nat) (x1 : Int32) (ρ : tM), rc2 x0 x1 ρ = some (v, τ) → tX p l e s m args below meth c 5 1 21 D aC b0 σ0 (.inl none) τ 2 [(0, .ref (x0)), (1, .int (x1))] [] ρ) : ∀ (n : Nat) (x0 : Nat) (x1 : Int32) (x3 : Int32) (x4 : Int32) (σ : tM), L_X12_bytesAgain_68 b0 fu rc2 n x0 x1 x3 x4 σ = some (v, τ) → tX p l e s m args below meth c 5 1 21 D aC b0 σ0 (.inl none) τ 68 [(0, .ref (x0)), (1, .int (x1)), (3, .int (x3)), (4, .int (x4))] [] σ := by
  intro n
  induction n with
  | zero => intro x0 x1 x3 x4 σ hm; unfold L_X12_bytesAgain_68 at hm; cases hm
  | succ n ih =>
    intro x0 x1 x3 x4 σ hm
    unfold L_X12_bytesAgain_68 at hm
    obtain ⟨rc68, hrc⟩ : ∃ z, z = L_X12_bytesAgain_68 b0 fu rc2 n := ⟨_, rfl⟩
    replace hm := ltb_e hm hrc
    rw [← hrc] at ih
    have hrc68 := ih
    clear ih hrc
    refine zx_iload C dX12_bytesAgain_68 3 rfl ?_
    refine zx_sipush (v := 256) C dX12_bytesAgain_70 (by decide) ?_
    refine zx_icmp_ge C 116 dX12_bytesAgain_73 (by decide) (fun c19 => ?_) (fun c19 => ?_)
    · replace hm := ip_e hm c19
      obtain ⟨y20, hy20⟩ : ∃ z : Int32, z = (x1) + Int32.ofInt 1 := ⟨_, rfl⟩
      replace hm := ltb_e hm hy20
      refine zx_iinc C [(1, .int (y20)), (0, .ref (x0)), (3, .int (x3)), (4, .int (x4))] dX12_bytesAgain_116 1 rfl hy20.symm (by decide) rfl ?_
      refine zx_goto C 2 dX12_bytesAgain_119 (by decide) ?_
      exact zx_lv [1, 0] [(0, .ref (x0)), (1, .int (y20))] rfl (hrc2 _ _ _ hm)
    · replace hm := in_e hm c19
      refine zx_aload_n C dX12_bytesAgain_76 0 rfl ?_
      obtain ⟨k21, i22, hm⟩ := ckO_e hm
      obtain ⟨a23, h24, hm⟩ := osm_e hm
      refine zx_get (j := 22) C tC_11 k21 i22 ⟨by decide, Or.inl W_7_1⟩ dX12_bytesAgain_77 (.ref a23) (rf_s h24) ?_
      refine zx_sipush (v := 256) C dX12_bytesAgain_80 (by decide) ?_
      refine zx_iload_n C dX12_bytesAgain_83 1 rfl ?_
      refine zx_imul C dX12_bytesAgain_84 ?_
      refine zx_iload C dX12_bytesAgain_85 3 rfl ?_
      refine zx_iadd C dX12_bytesAgain_87 ?_
      refine zx_iload_n C dX12_bytesAgain_88 2 rfl ?_
      refine zx_if_eq C 108 dX12_bytesAgain_89 (by decide) (fun c25 => ?_) (fun c25 => ?_)
      · replace hm := ip_e hm c25
        refine zx_iconst (v := 0) C dX12_bytesAgain_108 (by decide) ?_
        exact zx_lv [0, 1, 2, 3] [(0, .ref (x0)), (1, .int (x1)), (3, .int (x3)), (4, .int (x4))] rfl (j_X12_bytesAgain_109 C htab hin hrc2 hrc68   hm)
      · replace hm := in_e hm c25
        refine zx_aload_n C dX12_bytesAgain_92 0 rfl ?_
        obtain ⟨a31, h32, hm⟩ := osm_e hm
        refine zx_get (j := 10) C tC_11 k21 i22 ⟨by decide, Or.inl W_6_229⟩ dX12_bytesAgain_93 (.ref a31) (rf_s h32) ?_
        refine zx_sipush (v := 256) C dX12_bytesAgain_96 (by decide) ?_
        refine zx_iload_n C dX12_bytesAgain_99 1 rfl ?_
        refine zx_imul C dX12_bytesAgain_100 ?_
        refine zx_iload C dX12_bytesAgain_101 3 rfl ?_
        refine zx_iadd C dX12_bytesAgain_103 ?_
        obtain ⟨n35, k33, i34, hm⟩ := ckR_e hm
        obtain ⟨h36, hm⟩ := ckI_e hm
        refine zx_bald C k33 i34 h36 dX12_bytesAgain_104 ?_
        refine zx_goto C 109 dX12_bytesAgain_105 (by decide) ?_
        exact zx_lv [0, 1, 2, 3] [(0, .ref (x0)), (1, .int (x1)), (3, .int (x3)), (4, .int (x4))] rfl (j_X12_bytesAgain_109 C htab hin hrc2 hrc68   hm)
set_option maxRecDepth 100000 in
set_option maxHeartbeats 1000000 in
theorem j_X12_bytesAgain_64 {p : Program} {l : Launch} {e : Env} {s : State} {m : MethodId} {args : Array Value} {below : List Frame} {meth : Method} {c : Code} {D : va_G} {aC : Nat → ClassId} {b0 fu : Nat} {σ0 τ : tM} {v : Unit} {rc2 : Nat → Int32 → tM → Option ((Unit) × tM)} (C : tCx p l s m args meth c yX12_bytesAgain.cls cX12_bytesAgain 5 none D aC b0 σ0) (htab : ∀ x ∈ c.exceptionTable.toList, False) (hin : meth.name = yX12_bytesAgain.name) (hrc2 : ∀ (x0 : Nat) (x1 : Int32) (ρ : tM), rc2 x0 x1 ρ = some (v, τ) → tX p l e s m args below meth c 5 1 21 D aC b0 σ0 (.inl none) τ 2 [(0, .ref (x0)), (1, .int (x1))] [] ρ) {x0 : Nat} {x1 : Int32} {s0 : Int32} {σ : tM} (hm : J_X12_bytesAgain_64 b0 fu rc2 x0 x1 s0 σ = some (v, τ)) : tX p l e s m args below meth c 5 1 21 D aC b0 σ0 (.inl none) τ 64 [(0, .ref (x0)), (1, .int (x1))] [.int (s0)] σ := by
  unfold J_X12_bytesAgain_64 at hm
  refine zx_istore_n C [(3, .int (s0)), (0, .ref (x0)), (1, .int (x1))] dX12_bytesAgain_64 rfl (by decide) rfl ?_
  refine zx_iconst (v := 0) C dX12_bytesAgain_65 (by decide) ?_
  refine zx_istore C [(4, .int (0)), (3, .int (s0)), (0, .ref (x0)), (1, .int (x1))] dX12_bytesAgain_66 (by decide) rfl ?_
  exact zx_lv [2, 3, 1, 0] [(0, .ref (x0)), (1, .int (x1)), (3, .int (s0)), (4, .int (0))] rfl (l_X12_bytesAgain_68 C htab hin hrc2 _ _ _ _ _ _ hm)
set_option maxRecDepth 100000 in
set_option maxHeartbeats 1000000 in
theorem j_X12_bytesAgain_63 {p : Program} {l : Launch} {e : Env} {s : State} {m : MethodId} {args : Array Value} {below : List Frame} {meth : Method} {c : Code} {D : va_G} {aC : Nat → ClassId} {b0 fu : Nat} {σ0 τ : tM} {v : Unit} {rc2 : Nat → Int32 → tM → Option ((Unit) × tM)} (C : tCx p l s m args meth c yX12_bytesAgain.cls cX12_bytesAgain 5 none D aC b0 σ0) (htab : ∀ x ∈ c.exceptionTable.toList, False) (hin : meth.name = yX12_bytesAgain.name) (hrc2 : ∀ (x0 : Nat) (x1 : Int32) (ρ : tM), rc2 x0 x1 ρ = some (v, τ) → tX p l e s m args below meth c 5 1 21 D aC b0 σ0 (.inl none) τ 2 [(0, .ref (x0)), (1, .int (x1))] [] ρ) {x0 : Nat} {x1 : Int32} {σ : tM} (hm : J_X12_bytesAgain_63 b0 fu rc2 x0 x1 σ = some (v, τ)) : tX p l e s m args below meth c 5 1 21 D aC b0 σ0 (.inl none) τ 63 [(0, .ref (x0)), (1, .int (x1))] [] σ := by
  unfold J_X12_bytesAgain_63 at hm
  refine zx_iconst (v := 0) C dX12_bytesAgain_63 (by decide) ?_
  exact zx_lv [0, 1] [(0, .ref (x0)), (1, .int (x1))] rfl (j_X12_bytesAgain_64 C htab hin hrc2   hm)
set_option maxRecDepth 100000 in
set_option maxHeartbeats 1000000 in
theorem l_X12_bytesAgain_2 {p : Program} {l : Launch} {e : Env} {s : State} {m : MethodId} {args : Array Value} {below : List Frame} {meth : Method} {c : Code} {D : va_G} {aC : Nat → ClassId} {b0 fu : Nat} {σ0 τ : tM} {v : Unit}  (C : tCx p l s m args meth c yX12_bytesAgain.cls cX12_bytesAgain 5 none D aC b0 σ0) (htab : ∀ x ∈ c.exceptionTable.toList, False) (hin : meth.name = yX12_bytesAgain.name)  : ∀ (n : Nat) (x0 : Nat) (x1 : Int32) (σ : tM), L_X12_bytesAgain_2 b0 fu  n x0 x1 σ = some (v, τ) → tX p l e s m args below meth c 5 1 21 D aC b0 σ0 (.inl none) τ 2 [(0, .ref (x0)), (1, .int (x1))] [] σ := by
  intro n
  induction n with
  | zero => intro x0 x1 σ hm; unfold L_X12_bytesAgain_2 at hm; cases hm
  | succ n ih =>
    intro x0 x1 σ hm
    unfold L_X12_bytesAgain_2 at hm
    obtain ⟨rc2, hrc⟩ : ∃ z, z = L_X12_bytesAgain_2 b0 fu  n := ⟨_, rfl⟩
    replace hm := ltb_e hm hrc
    rw [← hrc] at ih
    have hrc2 := ih
    clear ih hrc
    refine zx_iload_n C dX12_bytesAgain_2 1 rfl ?_
    refine zx_aload_n C dX12_bytesAgain_3 0 rfl ?_
    obtain ⟨k1, i2, hm⟩ := ckO_e hm
    refine zx_get (j := 7) C tC_11 k1 i2 ⟨by decide, Or.inl W_6_226⟩ dX12_bytesAgain_4 (.int (tI (σ) (x0) 7)) rfl ?_
    refine zx_icmp_ge C 122 dX12_bytesAgain_7 (by decide) (fun c3 => ?_) (fun c3 => ?_)
    · replace hm := ip_e hm c3
      obtain ⟨rfl, rfl⟩ := ret_e hm
      exact zx_vret C rfl rfl rfl dX12_bytesAgain_122
    · replace hm := in_e hm c3
      refine zx_aload_n C dX12_bytesAgain_10 0 rfl ?_
      refine zx_iload_n C dX12_bytesAgain_11 1 rfl ?_
      obtain ⟨v4, ρ5, h6, hm⟩ := cll_e hm
      refine zx_callV (σ := σ) C [.int (x1)] tC_11 k1 i2 Y_X12_numberOf W_8_123 W_8_125 Wp_100 (c_X12_numberOf h6) (by decide) (by decide) rfl (Nat.le_of_ble_eq_true rfl) dX12_bytesAgain_12 rfl ?_
      refine zx_istore_n C [(2, .int (v4)), (0, .ref (x0)), (1, .int (x1))] dX12_bytesAgain_15 rfl (by decide) rfl ?_
      refine zx_aload_n C dX12_bytesAgain_16 1 rfl ?_
      obtain ⟨k7, i8, hm⟩ := ckO_e hm
      obtain ⟨a9, h10, hm⟩ := osm_e hm
      refine zx_get (j := 1) C tC_11 k7 i8 ⟨by decide, Or.inl W_6_221⟩ dX12_bytesAgain_17 (.ref a9) (rf_s h10) ?_
      refine zx_iload_n C dX12_bytesAgain_20 2 rfl ?_
      refine zx_iconst (v := 0) C dX12_bytesAgain_21 (by decide) ?_
      obtain ⟨v11, ρ12, h13, hm⟩ := cll_e hm
      refine zx_callS (σ := ρ5) C [.int (x1), .int (0)] Y_X12_room W_6_209 W_6_210 (c_X12_room h13) (by decide) (by decide) rfl (Nat.le_of_ble_eq_true rfl) dX12_bytesAgain_22 rfl ?_
      obtain ⟨n16, k14, i15, hm⟩ := ckR_e hm
      obtain ⟨h17, hm⟩ := ckI_e hm
      refine zx_iald C k14 i15 h17 dX12_bytesAgain_25 ?_
      refine zx_iconst (v := 1) C dX12_bytesAgain_26 (by decide) ?_
      refine zx_icmp_ne C 63 dX12_bytesAgain_27 (by decide) (fun c18 => ?_) (fun c18 => ?_)
      · replace hm := in_e hm c18
        exact zx_lv [1, 2] [(0, .ref (x0)), (1, .int (x1))] rfl (j_X12_bytesAgain_63 C htab hin hrc2   hm)
      · replace hm := ip_e hm c18
        refine zx_aload_n C dX12_bytesAgain_30 1 rfl ?_
        obtain ⟨k37, i38, hm⟩ := ckO_e hm
        obtain ⟨a39, h40, hm⟩ := osm_e hm
        refine zx_get (j := 8) C tC_11 k37 i38 ⟨by decide, Or.inl W_6_227⟩ dX12_bytesAgain_31 (.ref a39) (rf_s h40) ?_
        refine zx_iload_n C dX12_bytesAgain_34 0 rfl ?_
        obtain ⟨n43, k41, i42, hm⟩ := ckR_e hm
        obtain ⟨h44, hm⟩ := ckI_e hm
        refine zx_iald C k41 i42 h44 dX12_bytesAgain_35 ?_
        refine zx_iconst (v := 3) C dX12_bytesAgain_36 (by decide) ?_
        refine zx_icmp_ne C 63 dX12_bytesAgain_37 (by decide) (fun c45 => ?_) (fun c45 => ?_)
        · replace hm := in_e hm c45
          exact zx_lv [1, 2] [(0, .ref (x0)), (1, .int (x1))] rfl (j_X12_bytesAgain_63 C htab hin hrc2   hm)
        · replace hm := ip_e hm c45
          refine zx_aload_n C dX12_bytesAgain_40 1 rfl ?_
          obtain ⟨a46, h47, hm⟩ := osm_e hm
          refine zx_get (j := 9) C tC_11 k37 i38 ⟨by decide, Or.inl W_6_228⟩ dX12_bytesAgain_41 (.ref a46) (rf_s h47) ?_
          refine zx_iload_n C dX12_bytesAgain_44 0 rfl ?_
          obtain ⟨n50, k48, i49, hm⟩ := ckR_e hm
          obtain ⟨h51, hm⟩ := ckI_e hm
          refine zx_iald C k48 i49 h51 dX12_bytesAgain_45 ?_
          refine zx_aload_n C dX12_bytesAgain_46 1 rfl ?_
          obtain ⟨a52, h53, hm⟩ := osm_e hm
          refine zx_get (j := 1) C tC_11 k37 i38 ⟨by decide, Or.inl W_6_221⟩ dX12_bytesAgain_47 (.ref a52) (rf_s h53) ?_
          refine zx_iload_n C dX12_bytesAgain_50 2 rfl ?_
          refine zx_iconst (v := 1) C dX12_bytesAgain_51 (by decide) ?_
          obtain ⟨v54, ρ55, h56, hm⟩ := cll_e hm
          refine zx_callS (σ := ρ12) C [.int (x1), .int (1)] Y_X12_room W_6_209 W_6_210 (c_X12_room h56) (by decide) (by decide) rfl (Nat.le_of_ble_eq_true rfl) dX12_bytesAgain_52 rfl ?_
          obtain ⟨n59, k57, i58, hm⟩ := ckR_e hm
          obtain ⟨h60, hm⟩ := ckI_e hm
          refine zx_iald C k57 i58 h60 dX12_bytesAgain_55 ?_
          refine zx_icmp_ne C 63 dX12_bytesAgain_56 (by decide) (fun c61 => ?_) (fun c61 => ?_)
          · replace hm := in_e hm c61
            exact zx_lv [1, 2] [(0, .ref (x0)), (1, .int (x1))] rfl (j_X12_bytesAgain_63 C htab hin hrc2   hm)
          · replace hm := ip_e hm c61
            refine zx_iconst (v := 1) C dX12_bytesAgain_59 (by decide) ?_
            refine zx_goto C 64 dX12_bytesAgain_60 (by decide) ?_
            exact zx_lv [1, 2] [(0, .ref (x0)), (1, .int (x1))] rfl (j_X12_bytesAgain_64 C htab hin hrc2   hm)
set_option maxRecDepth 100000 in
set_option maxHeartbeats 1000000 in
theorem c_X12_bytesAgain {l : Launch} {D : va_G} {aC : Nat → ClassId} {b0 fu : Nat} {a0 : Nat} {σ τ : tM} {v : Unit} (hm : m_X12_bytesAgain b0 fu a0 σ = some (v, τ)) : tMt l D aC b0 yX12_bytesAgain (Cond.code yX12_bytesAgain cX12_bytesAgain 5 none) 1 21 [.ref (a0)] σ (.inl none) τ := by
  unfold m_X12_bytesAgain at hm
  obtain ⟨hg, hm⟩ := grw_e hm
  refine tMt_of (n := 0) rfl (Nat.le_of_ble_eq_true rfl) hg ?_
  intro p e s m below meth c C htab hin
  refine zx_lv [0] [(0, .ref (a0))] rfl ?_
  refine zx_iconst (v := 0) C dX12_bytesAgain_0 (by decide) ?_
  refine zx_istore_n C [(1, .int (0)), (0, .ref (a0))] dX12_bytesAgain_1 rfl (by decide) rfl ?_
  exact zx_lv [1, 0] [(0, .ref (a0)), (1, .int (0))] rfl (l_X12_bytesAgain_2 C htab hin  _ _ _ _ hm)
abbrev cX12_format : ByteArray := prog_13_method_67_code
def yX12_format : MethodName := ⟨"SyncTreeModel", "format", "(II)I"⟩
theorem Y_X12_format : tY yX12_format cX12_format 5 (some .int) 2 := ⟨W_6_208, W_1_14, ⟨by decide +kernel, by decide +kernel⟩, by decide +kernel⟩
theorem dX12_format_0 : decode cX12_format 0 = .ok (.aload_n 0, 1) := by decide +kernel
theorem dX12_format_1 : decode cX12_format 1 = .ok (.iconst 0, 1) := by decide +kernel
theorem dX12_format_2 : decode cX12_format 2 = .ok (.putfield 3, 3) := by decide +kernel
theorem dX12_format_5 : decode cX12_format 5 = .ok (.iload_n 1, 1) := by decide +kernel
theorem dX12_format_6 : decode cX12_format 6 = .ok (.bipush 40, 2) := by decide +kernel
theorem dX12_format_8 : decode cX12_format 8 = .ok (.if_icmp .lt 23, 3) := by decide +kernel
theorem dX12_format_11 : decode cX12_format 11 = .ok (.iload_n 1, 1) := by decide +kernel
theorem dX12_format_12 : decode cX12_format 12 = .ok (.sipush 4096, 3) := by decide +kernel
theorem dX12_format_15 : decode cX12_format 15 = .ok (.if_icmp .gt 16, 3) := by decide +kernel
theorem dX12_format_18 : decode cX12_format 18 = .ok (.iload_n 2, 1) := by decide +kernel
theorem dX12_format_19 : decode cX12_format 19 = .ok (.bipush 16, 2) := by decide +kernel
theorem dX12_format_21 : decode cX12_format 21 = .ok (.if_icmp .lt 10, 3) := by decide +kernel
theorem dX12_format_24 : decode cX12_format 24 = .ok (.iload_n 2, 1) := by decide +kernel
theorem dX12_format_25 : decode cX12_format 25 = .ok (.sipush 2000, 3) := by decide +kernel
theorem dX12_format_28 : decode cX12_format 28 = .ok (.if_icmp .le 6, 3) := by decide +kernel
theorem dX12_format_31 : decode cX12_format 31 = .ok (.bipush (-9), 2) := by decide +kernel
theorem dX12_format_33 : decode cX12_format 33 = .ok (.ireturn, 1) := by decide +kernel
theorem dX12_format_34 : decode cX12_format 34 = .ok (.aload_n 0, 1) := by decide +kernel
theorem dX12_format_35 : decode cX12_format 35 = .ok (.iload_n 1, 1) := by decide +kernel
theorem dX12_format_36 : decode cX12_format 36 = .ok (.putfield 38, 3) := by decide +kernel
theorem dX12_format_39 : decode cX12_format 39 = .ok (.aload_n 0, 1) := by decide +kernel
theorem dX12_format_40 : decode cX12_format 40 = .ok (.iload_n 2, 1) := by decide +kernel
theorem dX12_format_41 : decode cX12_format 41 = .ok (.putfield 41, 3) := by decide +kernel
theorem dX12_format_44 : decode cX12_format 44 = .ok (.iconst 0, 1) := by decide +kernel
theorem dX12_format_45 : decode cX12_format 45 = .ok (.istore_n 3, 1) := by decide +kernel
theorem dX12_format_46 : decode cX12_format 46 = .ok (.iload_n 3, 1) := by decide +kernel
theorem dX12_format_47 : decode cX12_format 47 = .ok (.aload_n 0, 1) := by decide +kernel
theorem dX12_format_48 : decode cX12_format 48 = .ok (.getfield 13, 3) := by decide +kernel
theorem dX12_format_51 : decode cX12_format 51 = .ok (.arraylength, 1) := by decide +kernel
theorem dX12_format_52 : decode cX12_format 52 = .ok (.if_icmp .ge 16, 3) := by decide +kernel
theorem dX12_format_55 : decode cX12_format 55 = .ok (.aload_n 0, 1) := by decide +kernel
theorem dX12_format_56 : decode cX12_format 56 = .ok (.getfield 13, 3) := by decide +kernel
theorem dX12_format_59 : decode cX12_format 59 = .ok (.iload_n 3, 1) := by decide +kernel
theorem dX12_format_60 : decode cX12_format 60 = .ok (.iconst 0, 1) := by decide +kernel
theorem dX12_format_61 : decode cX12_format 61 = .ok (.iastore, 1) := by decide +kernel
theorem dX12_format_62 : decode cX12_format 62 = .ok (.iinc 3 1, 3) := by decide +kernel
theorem dX12_format_65 : decode cX12_format 65 = .ok (.goto (-19), 3) := by decide +kernel
theorem dX12_format_68 : decode cX12_format 68 = .ok (.iconst 0, 1) := by decide +kernel
theorem dX12_format_69 : decode cX12_format 69 = .ok (.istore_n 3, 1) := by decide +kernel
theorem dX12_format_70 : decode cX12_format 70 = .ok (.iload_n 3, 1) := by decide +kernel
theorem dX12_format_71 : decode cX12_format 71 = .ok (.sipush 2000, 3) := by decide +kernel
theorem dX12_format_74 : decode cX12_format 74 = .ok (.if_icmp .ge 44, 3) := by decide +kernel
theorem dX12_format_77 : decode cX12_format 77 = .ok (.iconst 0, 1) := by decide +kernel
theorem dX12_format_78 : decode cX12_format 78 = .ok (.istore 4, 2) := by decide +kernel
theorem dX12_format_80 : decode cX12_format 80 = .ok (.iload 4, 2) := by decide +kernel
theorem dX12_format_82 : decode cX12_format 82 = .ok (.bipush 8, 2) := by decide +kernel
theorem dX12_format_84 : decode cX12_format 84 = .ok (.if_icmp .ge 28, 3) := by decide +kernel
theorem dX12_format_87 : decode cX12_format 87 = .ok (.aload_n 0, 1) := by decide +kernel
theorem dX12_format_88 : decode cX12_format 88 = .ok (.getfield 13, 3) := by decide +kernel
theorem dX12_format_91 : decode cX12_format 91 = .ok (.iload_n 3, 1) := by decide +kernel
theorem dX12_format_92 : decode cX12_format 92 = .ok (.bipush 34, 2) := by decide +kernel
theorem dX12_format_94 : decode cX12_format 94 = .ok (.iload 4, 2) := by decide +kernel
theorem dX12_format_96 : decode cX12_format 96 = .ok (.bipush 30, 2) := by decide +kernel
theorem dX12_format_98 : decode cX12_format 98 = .ok (.imul, 1) := by decide +kernel
theorem dX12_format_99 : decode cX12_format 99 = .ok (.iadd, 1) := by decide +kernel
theorem dX12_format_100 : decode cX12_format 100 = .ok (.invokestatic 233, 3) := by decide +kernel
theorem dX12_format_103 : decode cX12_format 103 = .ok (.bipush 64, 2) := by decide +kernel
theorem dX12_format_105 : decode cX12_format 105 = .ok (.iastore, 1) := by decide +kernel
theorem dX12_format_106 : decode cX12_format 106 = .ok (.iinc 4 1, 3) := by decide +kernel
theorem dX12_format_109 : decode cX12_format 109 = .ok (.goto (-29), 3) := by decide +kernel
theorem dX12_format_112 : decode cX12_format 112 = .ok (.iinc 3 1, 3) := by decide +kernel
theorem dX12_format_115 : decode cX12_format 115 = .ok (.goto (-45), 3) := by decide +kernel
theorem dX12_format_118 : decode cX12_format 118 = .ok (.aload_n 0, 1) := by decide +kernel
theorem dX12_format_119 : decode cX12_format 119 = .ok (.getfield 13, 3) := by decide +kernel
theorem dX12_format_122 : decode cX12_format 122 = .ok (.iconst 0, 1) := by decide +kernel
theorem dX12_format_123 : decode cX12_format 123 = .ok (.iconst 2, 1) := by decide +kernel
theorem dX12_format_124 : decode cX12_format 124 = .ok (.iastore, 1) := by decide +kernel
theorem dX12_format_125 : decode cX12_format 125 = .ok (.aload_n 0, 1) := by decide +kernel
theorem dX12_format_126 : decode cX12_format 126 = .ok (.iconst 0, 1) := by decide +kernel
theorem dX12_format_127 : decode cX12_format 127 = .ok (.putfield 17, 3) := by decide +kernel
theorem dX12_format_130 : decode cX12_format 130 = .ok (.iconst 0, 1) := by decide +kernel
theorem dX12_format_131 : decode cX12_format 131 = .ok (.istore_n 3, 1) := by decide +kernel
theorem dX12_format_132 : decode cX12_format 132 = .ok (.iload_n 3, 1) := by decide +kernel
theorem dX12_format_133 : decode cX12_format 133 = .ok (.aload_n 0, 1) := by decide +kernel
theorem dX12_format_134 : decode cX12_format 134 = .ok (.getfield 68, 3) := by decide +kernel
theorem dX12_format_137 : decode cX12_format 137 = .ok (.arraylength, 1) := by decide +kernel
theorem dX12_format_138 : decode cX12_format 138 = .ok (.if_icmp .ge 16, 3) := by decide +kernel
theorem dX12_format_141 : decode cX12_format 141 = .ok (.aload_n 0, 1) := by decide +kernel
theorem dX12_format_142 : decode cX12_format 142 = .ok (.getfield 68, 3) := by decide +kernel
theorem dX12_format_145 : decode cX12_format 145 = .ok (.iload_n 3, 1) := by decide +kernel
theorem dX12_format_146 : decode cX12_format 146 = .ok (.iconst 0, 1) := by decide +kernel
theorem dX12_format_147 : decode cX12_format 147 = .ok (.iastore, 1) := by decide +kernel
theorem dX12_format_148 : decode cX12_format 148 = .ok (.iinc 3 1, 3) := by decide +kernel
theorem dX12_format_151 : decode cX12_format 151 = .ok (.goto (-19), 3) := by decide +kernel
theorem dX12_format_154 : decode cX12_format 154 = .ok (.aload_n 0, 1) := by decide +kernel
theorem dX12_format_155 : decode cX12_format 155 = .ok (.iconst 0, 1) := by decide +kernel
theorem dX12_format_156 : decode cX12_format 156 = .ok (.putfield 87, 3) := by decide +kernel
theorem dX12_format_159 : decode cX12_format 159 = .ok (.aload_n 0, 1) := by decide +kernel
theorem dX12_format_160 : decode cX12_format 160 = .ok (.iconst 0, 1) := by decide +kernel
theorem dX12_format_161 : decode cX12_format 161 = .ok (.putfield 93, 3) := by decide +kernel
theorem dX12_format_164 : decode cX12_format 164 = .ok (.aload_n 0, 1) := by decide +kernel
theorem dX12_format_165 : decode cX12_format 165 = .ok (.iconst 1, 1) := by decide +kernel
theorem dX12_format_166 : decode cX12_format 166 = .ok (.putfield 58, 3) := by decide +kernel
theorem dX12_format_169 : decode cX12_format 169 = .ok (.aload_n 0, 1) := by decide +kernel
theorem dX12_format_170 : decode cX12_format 170 = .ok (.iconst (-1), 1) := by decide +kernel
theorem dX12_format_171 : decode cX12_format 171 = .ok (.putfield 44, 3) := by decide +kernel
theorem dX12_format_174 : decode cX12_format 174 = .ok (.aload_n 0, 1) := by decide +kernel
theorem dX12_format_175 : decode cX12_format 175 = .ok (.iconst 0, 1) := by decide +kernel
theorem dX12_format_176 : decode cX12_format 176 = .ok (.putfield 55, 3) := by decide +kernel
theorem dX12_format_179 : decode cX12_format 179 = .ok (.aload_n 0, 1) := by decide +kernel
theorem dX12_format_180 : decode cX12_format 180 = .ok (.iconst 0, 1) := by decide +kernel
theorem dX12_format_181 : decode cX12_format 181 = .ok (.putfield 105, 3) := by decide +kernel
theorem dX12_format_184 : decode cX12_format 184 = .ok (.aload_n 0, 1) := by decide +kernel
theorem dX12_format_185 : decode cX12_format 185 = .ok (.iconst 0, 1) := by decide +kernel
theorem dX12_format_186 : decode cX12_format 186 = .ok (.putfield 128, 3) := by decide +kernel
theorem dX12_format_189 : decode cX12_format 189 = .ok (.aload_n 0, 1) := by decide +kernel
theorem dX12_format_190 : decode cX12_format 190 = .ok (.iconst 0, 1) := by decide +kernel
theorem dX12_format_191 : decode cX12_format 191 = .ok (.putfield 137, 3) := by decide +kernel
theorem dX12_format_194 : decode cX12_format 194 = .ok (.aload_n 0, 1) := by decide +kernel
theorem dX12_format_195 : decode cX12_format 195 = .ok (.iconst 0, 1) := by decide +kernel
theorem dX12_format_196 : decode cX12_format 196 = .ok (.putfield 131, 3) := by decide +kernel
theorem dX12_format_199 : decode cX12_format 199 = .ok (.aload_n 0, 1) := by decide +kernel
theorem dX12_format_200 : decode cX12_format 200 = .ok (.iconst 0, 1) := by decide +kernel
theorem dX12_format_201 : decode cX12_format 201 = .ok (.putfield 122, 3) := by decide +kernel
theorem dX12_format_204 : decode cX12_format 204 = .ok (.aload_n 0, 1) := by decide +kernel
theorem dX12_format_205 : decode cX12_format 205 = .ok (.iconst 0, 1) := by decide +kernel
theorem dX12_format_206 : decode cX12_format 206 = .ok (.putfield 199, 3) := by decide +kernel
theorem dX12_format_209 : decode cX12_format 209 = .ok (.aload_n 0, 1) := by decide +kernel
theorem dX12_format_210 : decode cX12_format 210 = .ok (.iconst 0, 1) := by decide +kernel
theorem dX12_format_211 : decode cX12_format 211 = .ok (.putfield 208, 3) := by decide +kernel
theorem dX12_format_214 : decode cX12_format 214 = .ok (.aload_n 0, 1) := by decide +kernel
theorem dX12_format_215 : decode cX12_format 215 = .ok (.iconst 0, 1) := by decide +kernel
theorem dX12_format_216 : decode cX12_format 216 = .ok (.putfield 202, 3) := by decide +kernel
theorem dX12_format_219 : decode cX12_format 219 = .ok (.aload_n 0, 1) := by decide +kernel
theorem dX12_format_220 : decode cX12_format 220 = .ok (.iconst 0, 1) := by decide +kernel
theorem dX12_format_221 : decode cX12_format 221 = .ok (.putfield 119, 3) := by decide +kernel
theorem dX12_format_224 : decode cX12_format 224 = .ok (.aload_n 0, 1) := by decide +kernel
theorem dX12_format_225 : decode cX12_format 225 = .ok (.iconst 0, 1) := by decide +kernel
theorem dX12_format_226 : decode cX12_format 226 = .ok (.putfield 161, 3) := by decide +kernel
theorem dX12_format_229 : decode cX12_format 229 = .ok (.aload_n 0, 1) := by decide +kernel
theorem dX12_format_230 : decode cX12_format 230 = .ok (.iconst 0, 1) := by decide +kernel
theorem dX12_format_231 : decode cX12_format 231 = .ok (.putfield 217, 3) := by decide +kernel
theorem dX12_format_234 : decode cX12_format 234 = .ok (.aload_n 0, 1) := by decide +kernel
theorem dX12_format_235 : decode cX12_format 235 = .ok (.invokevirtual 187, 3) := by decide +kernel
theorem dX12_format_238 : decode cX12_format 238 = .ok (.iconst 0, 1) := by decide +kernel
theorem dX12_format_239 : decode cX12_format 239 = .ok (.istore_n 3, 1) := by decide +kernel
theorem dX12_format_240 : decode cX12_format 240 = .ok (.iload_n 3, 1) := by decide +kernel
theorem dX12_format_241 : decode cX12_format 241 = .ok (.aload_n 0, 1) := by decide +kernel
theorem dX12_format_242 : decode cX12_format 242 = .ok (.getfield 62, 3) := by decide +kernel
theorem dX12_format_245 : decode cX12_format 245 = .ok (.arraylength, 1) := by decide +kernel
theorem dX12_format_246 : decode cX12_format 246 = .ok (.if_icmp .ge 16, 3) := by decide +kernel
theorem dX12_format_249 : decode cX12_format 249 = .ok (.aload_n 0, 1) := by decide +kernel
theorem dX12_format_250 : decode cX12_format 250 = .ok (.getfield 62, 3) := by decide +kernel
theorem dX12_format_253 : decode cX12_format 253 = .ok (.iload_n 3, 1) := by decide +kernel
theorem dX12_format_254 : decode cX12_format 254 = .ok (.iconst 0, 1) := by decide +kernel
theorem dX12_format_255 : decode cX12_format 255 = .ok (.iastore, 1) := by decide +kernel
theorem dX12_format_256 : decode cX12_format 256 = .ok (.iinc 3 1, 3) := by decide +kernel
theorem dX12_format_259 : decode cX12_format 259 = .ok (.goto (-19), 3) := by decide +kernel
theorem dX12_format_262 : decode cX12_format 262 = .ok (.iconst 0, 1) := by decide +kernel
theorem dX12_format_263 : decode cX12_format 263 = .ok (.istore_n 3, 1) := by decide +kernel
theorem dX12_format_264 : decode cX12_format 264 = .ok (.iload_n 3, 1) := by decide +kernel
theorem dX12_format_265 : decode cX12_format 265 = .ok (.sipush 2000, 3) := by decide +kernel
theorem dX12_format_268 : decode cX12_format 268 = .ok (.if_icmp .ge 23, 3) := by decide +kernel
theorem dX12_format_271 : decode cX12_format 271 = .ok (.aload_n 0, 1) := by decide +kernel
theorem dX12_format_272 : decode cX12_format 272 = .ok (.getfield 244, 3) := by decide +kernel
theorem dX12_format_275 : decode cX12_format 275 = .ok (.iload_n 3, 1) := by decide +kernel
theorem dX12_format_276 : decode cX12_format 276 = .ok (.iconst 0, 1) := by decide +kernel
theorem dX12_format_277 : decode cX12_format 277 = .ok (.bastore, 1) := by decide +kernel
theorem dX12_format_278 : decode cX12_format 278 = .ok (.aload_n 0, 1) := by decide +kernel
theorem dX12_format_279 : decode cX12_format 279 = .ok (.getfield 190, 3) := by decide +kernel
theorem dX12_format_282 : decode cX12_format 282 = .ok (.iload_n 3, 1) := by decide +kernel
theorem dX12_format_283 : decode cX12_format 283 = .ok (.iconst 0, 1) := by decide +kernel
theorem dX12_format_284 : decode cX12_format 284 = .ok (.iastore, 1) := by decide +kernel
theorem dX12_format_285 : decode cX12_format 285 = .ok (.iinc 3 1, 3) := by decide +kernel
theorem dX12_format_288 : decode cX12_format 288 = .ok (.goto (-24), 3) := by decide +kernel
theorem dX12_format_291 : decode cX12_format 291 = .ok (.iconst 0, 1) := by decide +kernel
theorem dX12_format_292 : decode cX12_format 292 = .ok (.istore_n 3, 1) := by decide +kernel
theorem dX12_format_293 : decode cX12_format 293 = .ok (.iload_n 3, 1) := by decide +kernel
theorem dX12_format_294 : decode cX12_format 294 = .ok (.bipush 16, 2) := by decide +kernel
theorem dX12_format_296 : decode cX12_format 296 = .ok (.if_icmp .ge 16, 3) := by decide +kernel
theorem dX12_format_299 : decode cX12_format 299 = .ok (.aload_n 0, 1) := by decide +kernel
theorem dX12_format_300 : decode cX12_format 300 = .ok (.getfield 286, 3) := by decide +kernel
theorem dX12_format_303 : decode cX12_format 303 = .ok (.iload_n 3, 1) := by decide +kernel
theorem dX12_format_304 : decode cX12_format 304 = .ok (.iconst (-1), 1) := by decide +kernel
theorem dX12_format_305 : decode cX12_format 305 = .ok (.iastore, 1) := by decide +kernel
theorem dX12_format_306 : decode cX12_format 306 = .ok (.iinc 3 1, 3) := by decide +kernel
theorem dX12_format_309 : decode cX12_format 309 = .ok (.goto (-16), 3) := by decide +kernel
theorem dX12_format_312 : decode cX12_format 312 = .ok (.aload_n 0, 1) := by decide +kernel
theorem dX12_format_313 : decode cX12_format 313 = .ok (.getfield 346, 3) := by decide +kernel
theorem dX12_format_316 : decode cX12_format 316 = .ok (.iconst 0, 1) := by decide +kernel
theorem dX12_format_317 : decode cX12_format 317 = .ok (.iconst 0, 1) := by decide +kernel
theorem dX12_format_318 : decode cX12_format 318 = .ok (.iastore, 1) := by decide +kernel
theorem dX12_format_319 : decode cX12_format 319 = .ok (.aload_n 0, 1) := by decide +kernel
theorem dX12_format_320 : decode cX12_format 320 = .ok (.getfield 346, 3) := by decide +kernel
theorem dX12_format_323 : decode cX12_format 323 = .ok (.iconst 1, 1) := by decide +kernel
theorem dX12_format_324 : decode cX12_format 324 = .ok (.iconst 0, 1) := by decide +kernel
theorem dX12_format_325 : decode cX12_format 325 = .ok (.iastore, 1) := by decide +kernel
theorem dX12_format_326 : decode cX12_format 326 = .ok (.aload_n 0, 1) := by decide +kernel
theorem dX12_format_327 : decode cX12_format 327 = .ok (.iconst 0, 1) := by decide +kernel
theorem dX12_format_328 : decode cX12_format 328 = .ok (.putfield 400, 3) := by decide +kernel
theorem dX12_format_331 : decode cX12_format 331 = .ok (.aload_n 0, 1) := by decide +kernel
theorem dX12_format_332 : decode cX12_format 332 = .ok (.invokevirtual 164, 3) := by decide +kernel
theorem dX12_format_335 : decode cX12_format 335 = .ok (.ireturn, 1) := by decide +kernel
def J_X12_format_31 (b0 fu : Nat)   (σ : tM) : Option ((Int32) × tM) := some ((-9), σ)
def L_X12_format_293 (b0 fu : Nat)  : Nat → Nat → Int32 → tM → Option ((Int32) × tM)
  | 0, _, _, _ => none
  | n + 1, x0, x3, σ => ltb (L_X12_format_293 b0 fu  n) (fun rc293 => if (16) ≤ (x3) then ckO b0 (σ) (x0) 11 (osm (tA (σ) (x0) 48) (fun a54 => ckR b0 (σ) (a54) 0 (fun n58 => ckI (0) (n58) (osm (tA (sI (σ) (a54) (((0 : Int32)).toNatClampNeg) (0)) (x0) 48) (fun a60 => ckR b0 (sI (σ) (a54) (((0 : Int32)).toNatClampNeg) (0)) (a60) 0 (fun n64 => ckI (1) (n64) (cll (m_X12_blocks b0 fu (x0) (sI (sI (sI (σ) (a54) (((0 : Int32)).toNatClampNeg) (0)) (a60) (((1 : Int32)).toNatClampNeg) (0)) (x0) 57 (0))) (fun v66 ρ67 => some (v66, ρ67))))))))) else ckO b0 (σ) (x0) 11 (osm (tA (σ) (x0) 58) (fun a71 => ckR b0 (σ) (a71) 0 (fun n75 => ckI (x3) (n75) (ltb ((x3) + Int32.ofInt 1) (fun y77 => rc293 (x0) (y77) (sI (σ) (a71) ((x3).toNatClampNeg) ((-1)))))))))
def L_X12_format_264 (b0 fu : Nat)  : Nat → Nat → Int32 → tM → Option ((Int32) × tM)
  | 0, _, _, _ => none
  | n + 1, x0, x3, σ => ltb (L_X12_format_264 b0 fu  n) (fun rc264 => if (2000) ≤ (x3) then L_X12_format_293 b0 fu  (fu) (x0) (0) (σ) else ckO b0 (σ) (x0) 11 (osm (tA (σ) (x0) 23) (fun a80 => ckR b0 (σ) (a80) 2 (fun n84 => ckI (x3) (n84) (osm (tA (sI (σ) (a80) ((x3).toNatClampNeg) (vp_nar .boolean ((0 : Int32)))) (x0) 24) (fun a86 => ckR b0 (sI (σ) (a80) ((x3).toNatClampNeg) (vp_nar .boolean ((0 : Int32)))) (a86) 0 (fun n90 => ckI (x3) (n90) (ltb ((x3) + Int32.ofInt 1) (fun y92 => rc264 (x0) (y92) (sI (sI (σ) (a80) ((x3).toNatClampNeg) (vp_nar .boolean ((0 : Int32)))) (a86) ((x3).toNatClampNeg) (0)))))))))))
def L_X12_format_240 (b0 fu : Nat)  : Nat → Nat → Int32 → tM → Option ((Int32) × tM)
  | 0, _, _, _ => none
  | n + 1, x0, x3, σ => ltb (L_X12_format_240 b0 fu  n) (fun rc240 => ckO b0 (σ) (x0) 11 (osm (tA (σ) (x0) 17) (fun a44 => ckR b0 (σ) (a44) 0 (fun n48 => if (nI n48) ≤ (x3) then L_X12_format_264 b0 fu  (fu) (x0) (0) (σ) else osm (tA (σ) (x0) 17) (fun a93 => ckR b0 (σ) (a93) 0 (fun n97 => ckI (x3) (n97) (ltb ((x3) + Int32.ofInt 1) (fun y99 => rc240 (x0) (y99) (sI (σ) (a93) ((x3).toNatClampNeg) (0))))))))))
def J_X12_format_234 (b0 fu : Nat)  (x0 : Nat) (σ : tM) : Option ((Int32) × tM) := ckO b0 (σ) (x0) 11 (cll (m_X12_emptyGroup b0 fu (x0) (σ)) (fun v39 ρ40 => L_X12_format_240 b0 fu  (fu) (x0) (0) (ρ40)))
def J_X12_format_184 (b0 fu : Nat)  (x0 : Nat) (σ : tM) : Option ((Int32) × tM) := ckO b0 (σ) (x0) 11 (ltb (sI (sI (sI (sI (sI (sI (sI (sI (sI (σ) (x0) 35 (0)) (x0) 36 (0)) (x0) 45 (0)) (x0) 28 (0)) (x0) 29 (0)) (x0) 30 (0)) (x0) 31 (0)) (x0) 32 (0)) (x0) 33 (0)) (fun ρ34 => J_X12_format_234 b0 fu   (x0) (sI (ρ34) (x0) 46 (0))))
def L_X12_format_132 (b0 fu : Nat)  : Nat → Nat → Int32 → tM → Option ((Int32) × tM)
  | 0, _, _, _ => none
  | n + 1, x0, x3, σ => ltb (L_X12_format_132 b0 fu  n) (fun rc132 => ckO b0 (σ) (x0) 11 (osm (tA (σ) (x0) 8) (fun a26 => ckR b0 (σ) (a26) 0 (fun n30 => if (nI n30) ≤ (x3) then J_X12_format_184 b0 fu   (x0) (sI (sI (sI (sI (sI (sI (σ) (x0) 15 (0)) (x0) 16 (0)) (x0) 18 (1)) (x0) 19 ((-1))) (x0) 20 (0)) (x0) 21 (0)) else osm (tA (σ) (x0) 8) (fun a100 => ckR b0 (σ) (a100) 0 (fun n104 => ckI (x3) (n104) (ltb ((x3) + Int32.ofInt 1) (fun y106 => rc132 (x0) (y106) (sI (σ) (a100) ((x3).toNatClampNeg) (0))))))))))
def L_X12_format_80 (b0 fu : Nat) (rc70 : Nat → Int32 → tM → Option ((Int32) × tM)) : Nat → Nat → Int32 → Int32 → tM → Option ((Int32) × tM)
  | 0, _, _, _, _ => none
  | n + 1, x0, x3, x4, σ => ltb (L_X12_format_80 b0 fu rc70 n) (fun rc80 => if (8) ≤ (x4) then ltb ((x3) + Int32.ofInt 1) (fun y108 => rc70 (x0) (y108) (σ)) else ckO b0 (σ) (x0) 11 (osm (tA (σ) (x0) 1) (fun a111 => cll (m_X12_room b0 fu (x3) ((34) + ((x4) * (30))) (σ)) (fun v113 ρ114 => ckR b0 (ρ114) (a111) 0 (fun n118 => ckI (v113) (n118) (ltb ((x4) + Int32.ofInt 1) (fun y120 => rc80 (x0) (x3) (y120) (sI (ρ114) (a111) ((v113).toNatClampNeg) (64)))))))))
def L_X12_format_70 (b0 fu : Nat)  : Nat → Nat → Int32 → tM → Option ((Int32) × tM)
  | 0, _, _, _ => none
  | n + 1, x0, x3, σ => ltb (L_X12_format_70 b0 fu  n) (fun rc70 => if (2000) ≤ (x3) then ckO b0 (σ) (x0) 11 (osm (tA (σ) (x0) 1) (fun a18 => ckR b0 (σ) (a18) 0 (fun n22 => ckI (0) (n22) (L_X12_format_132 b0 fu  (fu) (x0) (0) (sI (sI (σ) (a18) (((0 : Int32)).toNatClampNeg) (2)) (x0) 4 (0)))))) else L_X12_format_80 b0 fu rc70 (fu) (x0) (x3) (0) (σ))
def L_X12_format_46 (b0 fu : Nat)  : Nat → Nat → Int32 → tM → Option ((Int32) × tM)
  | 0, _, _, _ => none
  | n + 1, x0, x3, σ => ltb (L_X12_format_46 b0 fu  n) (fun rc46 => ckO b0 (σ) (x0) 11 (osm (tA (σ) (x0) 1) (fun a9 => ckR b0 (σ) (a9) 0 (fun n13 => if (nI n13) ≤ (x3) then L_X12_format_70 b0 fu  (fu) (x0) (0) (σ) else osm (tA (σ) (x0) 1) (fun a121 => ckR b0 (σ) (a121) 0 (fun n125 => ckI (x3) (n125) (ltb ((x3) + Int32.ofInt 1) (fun y127 => rc46 (x0) (y127) (sI (σ) (a121) ((x3).toNatClampNeg) (0))))))))))
def m_X12_format (b0 fu : Nat) (a0 : Nat) (p0 : Int32) (p1 : Int32) (σ : tM) : Option ((Int32) × tM) := grw σ (ckO b0 (σ) (a0) 11 (if (p0) < (40) then J_X12_format_31 b0 fu    (sI (σ) (a0) 0 (0)) else if (4096) < (p0) then J_X12_format_31 b0 fu    (sI (σ) (a0) 0 (0)) else if (p1) < (16) then J_X12_format_31 b0 fu    (sI (σ) (a0) 0 (0)) else if (p1) ≤ (2000) then L_X12_format_46 b0 fu  (fu) (a0) (0) (sI (sI (sI (σ) (a0) 0 (0)) (a0) 6 (p0)) (a0) 7 (p1)) else J_X12_format_31 b0 fu    (sI (σ) (a0) 0 (0))))
set_option maxRecDepth 100000 in
set_option maxHeartbeats 1000000 in
theorem j_X12_format_31 {p : Program} {l : Launch} {e : Env} {s : State} {m : MethodId} {args : Array Value} {below : List Frame} {meth : Method} {c : Code} {D : va_G} {aC : Nat → ClassId} {b0 fu : Nat} {σ0 τ : tM} {v : Int32}  (C : tCx p l s m args meth c yX12_format.cls cX12_format 5 (some .int) D aC b0 σ0) (htab : ∀ x ∈ c.exceptionTable.toList, False) (hin : meth.name = yX12_format.name)   {σ : tM} (hm : J_X12_format_31 b0 fu   σ = some (v, τ)) : tX p l e s m args below meth c 5 1 21 D aC b0 σ0 (.inl (some (.int v))) τ 31 [] [] σ := by
  unfold J_X12_format_31 at hm
  refine zx_bipush (v := (-9)) C dX12_format_31 (by decide) ?_
  obtain ⟨rfl, rfl⟩ := ret_e hm
  exact zx_iret C rfl rfl rfl dX12_format_33
set_option maxRecDepth 100000 in
set_option maxHeartbeats 1000000 in
theorem l_X12_format_293 {p : Program} {l : Launch} {e : Env} {s : State} {m : MethodId} {args : Array Value} {below : List Frame} {meth : Method} {c : Code} {D : va_G} {aC : Nat → ClassId} {b0 fu : Nat} {σ0 τ : tM} {v : Int32}  (C : tCx p l s m args meth c yX12_format.cls cX12_format 5 (some .int) D aC b0 σ0) (htab : ∀ x ∈ c.exceptionTable.toList, False) (hin : meth.name = yX12_format.name)  : ∀ (n : Nat) (x0 : Nat) (x3 : Int32) (σ : tM), L_X12_format_293 b0 fu  n x0 x3 σ = some (v, τ) → tX p l e s m args below meth c 5 1 21 D aC b0 σ0 (.inl (some (.int v))) τ 293 [(0, .ref (x0)), (3, .int (x3))] [] σ := by
  intro n
  induction n with
  | zero => intro x0 x3 σ hm; unfold L_X12_format_293 at hm; cases hm
  | succ n ih =>
    intro x0 x3 σ hm
    unfold L_X12_format_293 at hm
    obtain ⟨rc293, hrc⟩ : ∃ z, z = L_X12_format_293 b0 fu  n := ⟨_, rfl⟩
    replace hm := ltb_e hm hrc
    rw [← hrc] at ih
    have hrc293 := ih
    clear ih hrc
    refine zx_iload_n C dX12_format_293 1 rfl ?_
    refine zx_bipush (v := 16) C dX12_format_294 (by decide) ?_
    refine zx_icmp_ge C 312 dX12_format_296 (by decide) (fun c51 => ?_) (fun c51 => ?_)
    · replace hm := ip_e hm c51
      refine zx_aload_n C dX12_format_312 0 rfl ?_
      obtain ⟨k52, i53, hm⟩ := ckO_e hm
      obtain ⟨a54, h55, hm⟩ := osm_e hm
      refine zx_get (j := 48) C tC_11 k52 i53 ⟨by decide, Or.inl W_7_27⟩ dX12_format_313 (.ref a54) (rf_s h55) ?_
      refine zx_iconst (v := 0) C dX12_format_316 (by decide) ?_
      refine zx_iconst (v := 0) C dX12_format_317 (by decide) ?_
      obtain ⟨n58, k56, i57, hm⟩ := ckR_e hm
      obtain ⟨h59, hm⟩ := ckI_e hm
      refine zx_iast C k56 i57 h59 dX12_format_318 ?_
      refine zx_aload_n C dX12_format_319 0 rfl ?_
      obtain ⟨a60, h61, hm⟩ := osm_e hm
      refine zx_get (j := 48) C tC_11 k52 i53 ⟨by decide, Or.inl W_7_27⟩ dX12_format_320 (.ref a60) (rf_s h61) ?_
      refine zx_iconst (v := 1) C dX12_format_323 (by decide) ?_
      refine zx_iconst (v := 0) C dX12_format_324 (by decide) ?_
      obtain ⟨n64, k62, i63, hm⟩ := ckR_e hm
      obtain ⟨h65, hm⟩ := ckI_e hm
      refine zx_iast C k62 i63 h65 dX12_format_325 ?_
      refine zx_aload_n C dX12_format_326 0 rfl ?_
      refine zx_iconst (v := 0) C dX12_format_327 (by decide) ?_
      refine zx_put (j := 57) (ρ := sI (sI (sI (σ) (a54) (((0 : Int32)).toNatClampNeg) (0)) (a60) (((1 : Int32)).toNatClampNeg) (0)) (x0) 57 (0)) C tC_11 k52 i53 ⟨by decide, Or.inl W_7_36⟩ rfl rfl rfl (sI_ok (fun _ => rfl)) dX12_format_328 ?_
      refine zx_aload_n C dX12_format_331 0 rfl ?_
      obtain ⟨v66, ρ67, h68, hm⟩ := cll_e hm
      refine zx_callV (σ := sI (sI (sI (σ) (a54) (((0 : Int32)).toNatClampNeg) (0)) (a60) (((1 : Int32)).toNatClampNeg) (0)) (x0) 57 (0)) C [] tC_11 k52 i53 Y_X12_blocks W_6_216 W_6_218 Wp_55 (c_X12_blocks h68) (by decide) (by decide) rfl (Nat.le_of_ble_eq_true rfl) dX12_format_332 rfl ?_
      obtain ⟨rfl, rfl⟩ := ret_e hm
      exact zx_iret C rfl rfl rfl dX12_format_335
    · replace hm := in_e hm c51
      refine zx_aload_n C dX12_format_299 0 rfl ?_
      obtain ⟨k69, i70, hm⟩ := ckO_e hm
      obtain ⟨a71, h72, hm⟩ := osm_e hm
      refine zx_get (j := 58) C tC_11 k69 i70 ⟨by decide, Or.inl W_7_37⟩ dX12_format_300 (.ref a71) (rf_s h72) ?_
      refine zx_iload_n C dX12_format_303 1 rfl ?_
      refine zx_iconst (v := (-1)) C dX12_format_304 (by decide) ?_
      obtain ⟨n75, k73, i74, hm⟩ := ckR_e hm
      obtain ⟨h76, hm⟩ := ckI_e hm
      refine zx_iast C k73 i74 h76 dX12_format_305 ?_
      obtain ⟨y77, hy77⟩ : ∃ z : Int32, z = (x3) + Int32.ofInt 1 := ⟨_, rfl⟩
      replace hm := ltb_e hm hy77
      refine zx_iinc C [(3, .int (y77)), (0, .ref (x0))] dX12_format_306 1 rfl hy77.symm (by decide) rfl ?_
      refine zx_goto C 293 dX12_format_309 (by decide) ?_
      exact zx_lv [1, 0] [(0, .ref (x0)), (3, .int (y77))] rfl (hrc293 _ _ _ hm)
set_option maxRecDepth 100000 in
set_option maxHeartbeats 1000000 in
theorem l_X12_format_264 {p : Program} {l : Launch} {e : Env} {s : State} {m : MethodId} {args : Array Value} {below : List Frame} {meth : Method} {c : Code} {D : va_G} {aC : Nat → ClassId} {b0 fu : Nat} {σ0 τ : tM} {v : Int32}  (C : tCx p l s m args meth c yX12_format.cls cX12_format 5 (some .int) D aC b0 σ0) (htab : ∀ x ∈ c.exceptionTable.toList, False) (hin : meth.name = yX12_format.name)  : ∀ (n : Nat) (x0 : Nat) (x3 : Int32) (σ : tM), L_X12_format_264 b0 fu  n x0 x3 σ = some (v, τ) → tX p l e s m args below meth c 5 1 21 D aC b0 σ0 (.inl (some (.int v))) τ 264 [(0, .ref (x0)), (3, .int (x3))] [] σ := by
  intro n
  induction n with
  | zero => intro x0 x3 σ hm; unfold L_X12_format_264 at hm; cases hm
  | succ n ih =>
    intro x0 x3 σ hm
    unfold L_X12_format_264 at hm
    obtain ⟨rc264, hrc⟩ : ∃ z, z = L_X12_format_264 b0 fu  n := ⟨_, rfl⟩
    replace hm := ltb_e hm hrc
    rw [← hrc] at ih
    have hrc264 := ih
    clear ih hrc
    refine zx_iload_n C dX12_format_264 1 rfl ?_
    refine zx_sipush (v := 2000) C dX12_format_265 (by decide) ?_
    refine zx_icmp_ge C 291 dX12_format_268 (by decide) (fun c50 => ?_) (fun c50 => ?_)
    · replace hm := ip_e hm c50
      refine zx_iconst (v := 0) C dX12_format_291 (by decide) ?_
      refine zx_istore_n C [(3, .int (0)), (0, .ref (x0))] dX12_format_292 rfl (by decide) rfl ?_
      exact zx_lv [1, 0] [(0, .ref (x0)), (3, .int (0))] rfl (l_X12_format_293 C htab hin  _ _ _ _ hm)
    · replace hm := in_e hm c50
      refine zx_aload_n C dX12_format_271 0 rfl ?_
      obtain ⟨k78, i79, hm⟩ := ckO_e hm
      obtain ⟨a80, h81, hm⟩ := osm_e hm
      refine zx_get (j := 23) C tC_11 k78 i79 ⟨by decide, Or.inl W_7_2⟩ dX12_format_272 (.ref a80) (rf_s h81) ?_
      refine zx_iload_n C dX12_format_275 1 rfl ?_
      refine zx_iconst (v := 0) C dX12_format_276 (by decide) ?_
      obtain ⟨n84, k82, i83, hm⟩ := ckR_e hm
      obtain ⟨h85, hm⟩ := ckI_e hm
      refine zx_zast C k82 i83 h85 dX12_format_277 ?_
      refine zx_aload_n C dX12_format_278 0 rfl ?_
      obtain ⟨a86, h87, hm⟩ := osm_e hm
      refine zx_get (j := 24) C tC_11 k78 i79 ⟨by decide, Or.inl W_7_3⟩ dX12_format_279 (.ref a86) (rf_s h87) ?_
      refine zx_iload_n C dX12_format_282 1 rfl ?_
      refine zx_iconst (v := 0) C dX12_format_283 (by decide) ?_
      obtain ⟨n90, k88, i89, hm⟩ := ckR_e hm
      obtain ⟨h91, hm⟩ := ckI_e hm
      refine zx_iast C k88 i89 h91 dX12_format_284 ?_
      obtain ⟨y92, hy92⟩ : ∃ z : Int32, z = (x3) + Int32.ofInt 1 := ⟨_, rfl⟩
      replace hm := ltb_e hm hy92
      refine zx_iinc C [(3, .int (y92)), (0, .ref (x0))] dX12_format_285 1 rfl hy92.symm (by decide) rfl ?_
      refine zx_goto C 264 dX12_format_288 (by decide) ?_
      exact zx_lv [1, 0] [(0, .ref (x0)), (3, .int (y92))] rfl (hrc264 _ _ _ hm)
set_option maxRecDepth 100000 in
set_option maxHeartbeats 1000000 in
theorem l_X12_format_240 {p : Program} {l : Launch} {e : Env} {s : State} {m : MethodId} {args : Array Value} {below : List Frame} {meth : Method} {c : Code} {D : va_G} {aC : Nat → ClassId} {b0 fu : Nat} {σ0 τ : tM} {v : Int32}  (C : tCx p l s m args meth c yX12_format.cls cX12_format 5 (some .int) D aC b0 σ0) (htab : ∀ x ∈ c.exceptionTable.toList, False) (hin : meth.name = yX12_format.name)  : ∀ (n : Nat) (x0 : Nat) (x3 : Int32) (σ : tM), L_X12_format_240 b0 fu  n x0 x3 σ = some (v, τ) → tX p l e s m args below meth c 5 1 21 D aC b0 σ0 (.inl (some (.int v))) τ 240 [(0, .ref (x0)), (3, .int (x3))] [] σ := by
  intro n
  induction n with
  | zero => intro x0 x3 σ hm; unfold L_X12_format_240 at hm; cases hm
  | succ n ih =>
    intro x0 x3 σ hm
    unfold L_X12_format_240 at hm
    obtain ⟨rc240, hrc⟩ : ∃ z, z = L_X12_format_240 b0 fu  n := ⟨_, rfl⟩
    replace hm := ltb_e hm hrc
    rw [← hrc] at ih
    have hrc240 := ih
    clear ih hrc
    refine zx_iload_n C dX12_format_240 1 rfl ?_
    refine zx_aload_n C dX12_format_241 0 rfl ?_
    obtain ⟨k42, i43, hm⟩ := ckO_e hm
    obtain ⟨a44, h45, hm⟩ := osm_e hm
    refine zx_get (j := 17) C tC_11 k42 i43 ⟨by decide, Or.inl W_6_236⟩ dX12_format_242 (.ref a44) (rf_s h45) ?_
    obtain ⟨n48, k46, i47, hm⟩ := ckR_e hm
    refine zx_alen C k46 (by decide) i47 dX12_format_245 ?_
    refine zx_icmp_ge C 262 dX12_format_246 (by decide) (fun c49 => ?_) (fun c49 => ?_)
    · replace hm := ip_e hm c49
      refine zx_iconst (v := 0) C dX12_format_262 (by decide) ?_
      refine zx_istore_n C [(3, .int (0)), (0, .ref (x0))] dX12_format_263 rfl (by decide) rfl ?_
      exact zx_lv [1, 0] [(0, .ref (x0)), (3, .int (0))] rfl (l_X12_format_264 C htab hin  _ _ _ _ hm)
    · replace hm := in_e hm c49
      refine zx_aload_n C dX12_format_249 0 rfl ?_
      obtain ⟨a93, h94, hm⟩ := osm_e hm
      refine zx_get (j := 17) C tC_11 k42 i43 ⟨by decide, Or.inl W_6_236⟩ dX12_format_250 (.ref a93) (rf_s h94) ?_
      refine zx_iload_n C dX12_format_253 1 rfl ?_
      refine zx_iconst (v := 0) C dX12_format_254 (by decide) ?_
      obtain ⟨n97, k95, i96, hm⟩ := ckR_e hm
      obtain ⟨h98, hm⟩ := ckI_e hm
      refine zx_iast C k95 i96 h98 dX12_format_255 ?_
      obtain ⟨y99, hy99⟩ : ∃ z : Int32, z = (x3) + Int32.ofInt 1 := ⟨_, rfl⟩
      replace hm := ltb_e hm hy99
      refine zx_iinc C [(3, .int (y99)), (0, .ref (x0))] dX12_format_256 1 rfl hy99.symm (by decide) rfl ?_
      refine zx_goto C 240 dX12_format_259 (by decide) ?_
      exact zx_lv [1, 0] [(0, .ref (x0)), (3, .int (y99))] rfl (hrc240 _ _ _ hm)
set_option maxRecDepth 100000 in
set_option maxHeartbeats 1000000 in
theorem j_X12_format_234 {p : Program} {l : Launch} {e : Env} {s : State} {m : MethodId} {args : Array Value} {below : List Frame} {meth : Method} {c : Code} {D : va_G} {aC : Nat → ClassId} {b0 fu : Nat} {σ0 τ : tM} {v : Int32}  (C : tCx p l s m args meth c yX12_format.cls cX12_format 5 (some .int) D aC b0 σ0) (htab : ∀ x ∈ c.exceptionTable.toList, False) (hin : meth.name = yX12_format.name)  {x0 : Nat} {σ : tM} (hm : J_X12_format_234 b0 fu  x0 σ = some (v, τ)) : tX p l e s m args below meth c 5 1 21 D aC b0 σ0 (.inl (some (.int v))) τ 234 [(0, .ref (x0))] [] σ := by
  unfold J_X12_format_234 at hm
  refine zx_aload_n C dX12_format_234 0 rfl ?_
  obtain ⟨k37, i38, hm⟩ := ckO_e hm
  obtain ⟨v39, ρ40, h41, hm⟩ := cll_e hm
  refine zx_callV (σ := σ) C [] tC_11 k37 i38 Y_X12_emptyGroup W_6_212 W_6_214 Wp_54 (c_X12_emptyGroup h41) (by decide) (by decide) rfl (Nat.le_of_ble_eq_true rfl) dX12_format_235 rfl ?_
  refine zx_iconst (v := 0) C dX12_format_238 (by decide) ?_
  refine zx_istore_n C [(3, .int (0)), (0, .ref (x0))] dX12_format_239 rfl (by decide) rfl ?_
  exact zx_lv [1, 0] [(0, .ref (x0)), (3, .int (0))] rfl (l_X12_format_240 C htab hin  _ _ _ _ hm)
set_option maxRecDepth 100000 in
set_option maxHeartbeats 1000000 in
theorem j_X12_format_184 {p : Program} {l : Launch} {e : Env} {s : State} {m : MethodId} {args : Array Value} {below : List Frame} {meth : Method} {c : Code} {D : va_G} {aC : Nat → ClassId} {b0 fu : Nat} {σ0 τ : tM} {v : Int32}  (C : tCx p l s m args meth c yX12_format.cls cX12_format 5 (some .int) D aC b0 σ0) (htab : ∀ x ∈ c.exceptionTable.toList, False) (hin : meth.name = yX12_format.name)  {x0 : Nat} {σ : tM} (hm : J_X12_format_184 b0 fu  x0 σ = some (v, τ)) : tX p l e s m args below meth c 5 1 21 D aC b0 σ0 (.inl (some (.int v))) τ 184 [(0, .ref (x0))] [] σ := by
  unfold J_X12_format_184 at hm
  refine zx_aload_n C dX12_format_184 0 rfl ?_
  refine zx_iconst (v := 0) C dX12_format_185 (by decide) ?_
  obtain ⟨k32, i33, hm⟩ := ckO_e hm
  refine zx_put (j := 35) (ρ := sI (σ) (x0) 35 (0)) C tC_11 k32 i33 ⟨by decide, Or.inl W_7_14⟩ rfl rfl rfl (sI_ok (fun _ => rfl)) dX12_format_186 ?_
  refine zx_aload_n C dX12_format_189 0 rfl ?_
  refine zx_iconst (v := 0) C dX12_format_190 (by decide) ?_
  refine zx_put (j := 36) (ρ := sI (sI (σ) (x0) 35 (0)) (x0) 36 (0)) C tC_11 k32 i33 ⟨by decide, Or.inl W_7_15⟩ rfl rfl rfl (sI_ok (fun _ => rfl)) dX12_format_191 ?_
  refine zx_aload_n C dX12_format_194 0 rfl ?_
  refine zx_iconst (v := 0) C dX12_format_195 (by decide) ?_
  refine zx_put (j := 45) (ρ := sI (sI (sI (σ) (x0) 35 (0)) (x0) 36 (0)) (x0) 45 (0)) C tC_11 k32 i33 ⟨by decide, Or.inl W_7_24⟩ rfl rfl rfl (sI_ok (fun _ => rfl)) dX12_format_196 ?_
  refine zx_aload_n C dX12_format_199 0 rfl ?_
  refine zx_iconst (v := 0) C dX12_format_200 (by decide) ?_
  refine zx_put (j := 28) (ρ := sI (sI (sI (sI (σ) (x0) 35 (0)) (x0) 36 (0)) (x0) 45 (0)) (x0) 28 (0)) C tC_11 k32 i33 ⟨by decide, Or.inl W_7_7⟩ rfl rfl rfl (sI_ok (fun _ => rfl)) dX12_format_201 ?_
  refine zx_aload_n C dX12_format_204 0 rfl ?_
  refine zx_iconst (v := 0) C dX12_format_205 (by decide) ?_
  refine zx_put (j := 29) (ρ := sI (sI (sI (sI (sI (σ) (x0) 35 (0)) (x0) 36 (0)) (x0) 45 (0)) (x0) 28 (0)) (x0) 29 (0)) C tC_11 k32 i33 ⟨by decide, Or.inl W_7_8⟩ rfl rfl rfl (sI_ok (fun _ => rfl)) dX12_format_206 ?_
  refine zx_aload_n C dX12_format_209 0 rfl ?_
  refine zx_iconst (v := 0) C dX12_format_210 (by decide) ?_
  refine zx_put (j := 30) (ρ := sI (sI (sI (sI (sI (sI (σ) (x0) 35 (0)) (x0) 36 (0)) (x0) 45 (0)) (x0) 28 (0)) (x0) 29 (0)) (x0) 30 (0)) C tC_11 k32 i33 ⟨by decide, Or.inl W_7_9⟩ rfl rfl rfl (sI_ok (fun _ => rfl)) dX12_format_211 ?_
  refine zx_aload_n C dX12_format_214 0 rfl ?_
  refine zx_iconst (v := 0) C dX12_format_215 (by decide) ?_
  refine zx_put (j := 31) (ρ := sI (sI (sI (sI (sI (sI (sI (σ) (x0) 35 (0)) (x0) 36 (0)) (x0) 45 (0)) (x0) 28 (0)) (x0) 29 (0)) (x0) 30 (0)) (x0) 31 (0)) C tC_11 k32 i33 ⟨by decide, Or.inl W_7_10⟩ rfl rfl rfl (sI_ok (fun _ => rfl)) dX12_format_216 ?_
  refine zx_aload_n C dX12_format_219 0 rfl ?_
  refine zx_iconst (v := 0) C dX12_format_220 (by decide) ?_
  refine zx_put (j := 32) (ρ := sI (sI (sI (sI (sI (sI (sI (sI (σ) (x0) 35 (0)) (x0) 36 (0)) (x0) 45 (0)) (x0) 28 (0)) (x0) 29 (0)) (x0) 30 (0)) (x0) 31 (0)) (x0) 32 (0)) C tC_11 k32 i33 ⟨by decide, Or.inl W_7_11⟩ rfl rfl rfl (sI_ok (fun _ => rfl)) dX12_format_221 ?_
  refine zx_aload_n C dX12_format_224 0 rfl ?_
  refine zx_iconst (v := 0) C dX12_format_225 (by decide) ?_
  refine zx_put (j := 33) (ρ := sI (sI (sI (sI (sI (sI (sI (sI (sI (σ) (x0) 35 (0)) (x0) 36 (0)) (x0) 45 (0)) (x0) 28 (0)) (x0) 29 (0)) (x0) 30 (0)) (x0) 31 (0)) (x0) 32 (0)) (x0) 33 (0)) C tC_11 k32 i33 ⟨by decide, Or.inl W_7_12⟩ rfl rfl rfl (sI_ok (fun _ => rfl)) dX12_format_226 ?_
  refine zx_mem (fun ρ34 hρ34 => ?_)
  replace hm := ltb_e hm hρ34
  have k35 : tk ρ34 (x0) = .inl 11 := by rw [hρ34]; exact k32
  have i36 : tIn b0 ρ34 (x0) := by rw [hρ34]; exact i33
  refine zx_aload_n C dX12_format_229 0 rfl ?_
  refine zx_iconst (v := 0) C dX12_format_230 (by decide) ?_
  refine zx_put (j := 46) (ρ := sI (ρ34) (x0) 46 (0)) C tC_11 k35 i36 ⟨by decide, Or.inl W_7_25⟩ rfl rfl rfl (sI_ok (fun _ => rfl)) dX12_format_231 ?_
  exact zx_lv [0] [(0, .ref (x0))] rfl (j_X12_format_234 C htab hin    hm)
set_option maxRecDepth 100000 in
set_option maxHeartbeats 1000000 in
theorem l_X12_format_132 {p : Program} {l : Launch} {e : Env} {s : State} {m : MethodId} {args : Array Value} {below : List Frame} {meth : Method} {c : Code} {D : va_G} {aC : Nat → ClassId} {b0 fu : Nat} {σ0 τ : tM} {v : Int32}  (C : tCx p l s m args meth c yX12_format.cls cX12_format 5 (some .int) D aC b0 σ0) (htab : ∀ x ∈ c.exceptionTable.toList, False) (hin : meth.name = yX12_format.name)  : ∀ (n : Nat) (x0 : Nat) (x3 : Int32) (σ : tM), L_X12_format_132 b0 fu  n x0 x3 σ = some (v, τ) → tX p l e s m args below meth c 5 1 21 D aC b0 σ0 (.inl (some (.int v))) τ 132 [(0, .ref (x0)), (3, .int (x3))] [] σ := by
  intro n
  induction n with
  | zero => intro x0 x3 σ hm; unfold L_X12_format_132 at hm; cases hm
  | succ n ih =>
    intro x0 x3 σ hm
    unfold L_X12_format_132 at hm
    obtain ⟨rc132, hrc⟩ : ∃ z, z = L_X12_format_132 b0 fu  n := ⟨_, rfl⟩
    replace hm := ltb_e hm hrc
    rw [← hrc] at ih
    have hrc132 := ih
    clear ih hrc
    refine zx_iload_n C dX12_format_132 1 rfl ?_
    refine zx_aload_n C dX12_format_133 0 rfl ?_
    obtain ⟨k24, i25, hm⟩ := ckO_e hm
    obtain ⟨a26, h27, hm⟩ := osm_e hm
    refine zx_get (j := 8) C tC_11 k24 i25 ⟨by decide, Or.inl W_6_227⟩ dX12_format_134 (.ref a26) (rf_s h27) ?_
    obtain ⟨n30, k28, i29, hm⟩ := ckR_e hm
    refine zx_alen C k28 (by decide) i29 dX12_format_137 ?_
    refine zx_icmp_ge C 154 dX12_format_138 (by decide) (fun c31 => ?_) (fun c31 => ?_)
    · replace hm := ip_e hm c31
      refine zx_aload_n C dX12_format_154 0 rfl ?_
      refine zx_iconst (v := 0) C dX12_format_155 (by decide) ?_
      refine zx_put (j := 15) (ρ := sI (σ) (x0) 15 (0)) C tC_11 k24 i25 ⟨by decide, Or.inl W_6_234⟩ rfl rfl rfl (sI_ok (fun _ => rfl)) dX12_format_156 ?_
      refine zx_aload_n C dX12_format_159 0 rfl ?_
      refine zx_iconst (v := 0) C dX12_format_160 (by decide) ?_
      refine zx_put (j := 16) (ρ := sI (sI (σ) (x0) 15 (0)) (x0) 16 (0)) C tC_11 k24 i25 ⟨by decide, Or.inl W_6_235⟩ rfl rfl rfl (sI_ok (fun _ => rfl)) dX12_format_161 ?_
      refine zx_aload_n C dX12_format_164 0 rfl ?_
      refine zx_iconst (v := 1) C dX12_format_165 (by decide) ?_
      refine zx_put (j := 18) (ρ := sI (sI (sI (σ) (x0) 15 (0)) (x0) 16 (0)) (x0) 18 (1)) C tC_11 k24 i25 ⟨by decide, Or.inl W_6_237⟩ rfl rfl rfl (sI_ok (fun _ => rfl)) dX12_format_166 ?_
      refine zx_aload_n C dX12_format_169 0 rfl ?_
      refine zx_iconst (v := (-1)) C dX12_format_170 (by decide) ?_
      refine zx_put (j := 19) (ρ := sI (sI (sI (sI (σ) (x0) 15 (0)) (x0) 16 (0)) (x0) 18 (1)) (x0) 19 ((-1))) C tC_11 k24 i25 ⟨by decide, Or.inl W_6_238⟩ rfl rfl rfl (sI_ok (fun _ => rfl)) dX12_format_171 ?_
      refine zx_aload_n C dX12_format_174 0 rfl ?_
      refine zx_iconst (v := 0) C dX12_format_175 (by decide) ?_
      refine zx_put (j := 20) (ρ := sI (sI (sI (sI (sI (σ) (x0) 15 (0)) (x0) 16 (0)) (x0) 18 (1)) (x0) 19 ((-1))) (x0) 20 (0)) C tC_11 k24 i25 ⟨by decide, Or.inl W_6_239⟩ rfl rfl rfl (sI_ok (fun _ => rfl)) dX12_format_176 ?_
      refine zx_aload_n C dX12_format_179 0 rfl ?_
      refine zx_iconst (v := 0) C dX12_format_180 (by decide) ?_
      refine zx_put (j := 21) (ρ := sI (sI (sI (sI (sI (sI (σ) (x0) 15 (0)) (x0) 16 (0)) (x0) 18 (1)) (x0) 19 ((-1))) (x0) 20 (0)) (x0) 21 (0)) C tC_11 k24 i25 ⟨by decide, Or.inl W_7_0⟩ rfl rfl rfl (sI_ok (fun _ => rfl)) dX12_format_181 ?_
      exact zx_lv [0] [(0, .ref (x0))] rfl (j_X12_format_184 C htab hin    hm)
    · replace hm := in_e hm c31
      refine zx_aload_n C dX12_format_141 0 rfl ?_
      obtain ⟨a100, h101, hm⟩ := osm_e hm
      refine zx_get (j := 8) C tC_11 k24 i25 ⟨by decide, Or.inl W_6_227⟩ dX12_format_142 (.ref a100) (rf_s h101) ?_
      refine zx_iload_n C dX12_format_145 1 rfl ?_
      refine zx_iconst (v := 0) C dX12_format_146 (by decide) ?_
      obtain ⟨n104, k102, i103, hm⟩ := ckR_e hm
      obtain ⟨h105, hm⟩ := ckI_e hm
      refine zx_iast C k102 i103 h105 dX12_format_147 ?_
      obtain ⟨y106, hy106⟩ : ∃ z : Int32, z = (x3) + Int32.ofInt 1 := ⟨_, rfl⟩
      replace hm := ltb_e hm hy106
      refine zx_iinc C [(3, .int (y106)), (0, .ref (x0))] dX12_format_148 1 rfl hy106.symm (by decide) rfl ?_
      refine zx_goto C 132 dX12_format_151 (by decide) ?_
      exact zx_lv [1, 0] [(0, .ref (x0)), (3, .int (y106))] rfl (hrc132 _ _ _ hm)
set_option maxRecDepth 100000 in
set_option maxHeartbeats 1000000 in
theorem l_X12_format_80 {p : Program} {l : Launch} {e : Env} {s : State} {m : MethodId} {args : Array Value} {below : List Frame} {meth : Method} {c : Code} {D : va_G} {aC : Nat → ClassId} {b0 fu : Nat} {σ0 τ : tM} {v : Int32} {rc70 : Nat → Int32 → tM → Option ((Int32) × tM)} (C : tCx p l s m args meth c yX12_format.cls cX12_format 5 (some .int) D aC b0 σ0) (htab : ∀ x ∈ c.exceptionTable.toList, False) (hin : meth.name = yX12_format.name) (hrc70 : ∀ (x0 : Nat) (x3 : Int32) (ρ : tM), rc70 x0 x3 ρ = some (v, τ) → tX p l e s m args below meth c 5 1 21 D aC b0 σ0 (.inl (some (.int v))) τ 70 [(0, .ref (x0)), (3, .int (x3))] [] ρ) : ∀ (n : Nat) (x0 : Nat) (x3 : Int32) (x4 : Int32) (σ : tM), L_X12_format_80 b0 fu rc70 n x0 x3 x4 σ = some (v, τ) → tX p l e s m args below meth c 5 1 21 D aC b0 σ0 (.inl (some (.int v))) τ 80 [(0, .ref (x0)), (3, .int (x3)), (4, .int (x4))] [] σ := by
  intro n
  induction n with
  | zero => intro x0 x3 x4 σ hm; unfold L_X12_format_80 at hm; cases hm
  | succ n ih =>
    intro x0 x3 x4 σ hm
    unfold L_X12_format_80 at hm
    obtain ⟨rc80, hrc⟩ : ∃ z, z = L_X12_format_80 b0 fu rc70 n := ⟨_, rfl⟩
    replace hm := ltb_e hm hrc
    rw [← hrc] at ih
    have hrc80 := ih
    clear ih hrc
    refine zx_iload C dX12_format_80 2 rfl ?_
    refine zx_bipush (v := 8) C dX12_format_82 (by decide) ?_
    refine zx_icmp_ge C 112 dX12_format_84 (by decide) (fun c107 => ?_) (fun c107 => ?_)
    · replace hm := ip_e hm c107
      obtain ⟨y108, hy108⟩ : ∃ z : Int32, z = (x3) + Int32.ofInt 1 := ⟨_, rfl⟩
      replace hm := ltb_e hm hy108
      refine zx_iinc C [(3, .int (y108)), (0, .ref (x0)), (4, .int (x4))] dX12_format_112 1 rfl hy108.symm (by decide) rfl ?_
      refine zx_goto C 70 dX12_format_115 (by decide) ?_
      exact zx_lv [1, 0] [(0, .ref (x0)), (3, .int (y108))] rfl (hrc70 _ _ _ hm)
    · replace hm := in_e hm c107
      refine zx_aload_n C dX12_format_87 0 rfl ?_
      obtain ⟨k109, i110, hm⟩ := ckO_e hm
      obtain ⟨a111, h112, hm⟩ := osm_e hm
      refine zx_get (j := 1) C tC_11 k109 i110 ⟨by decide, Or.inl W_6_221⟩ dX12_format_88 (.ref a111) (rf_s h112) ?_
      refine zx_iload_n C dX12_format_91 1 rfl ?_
      refine zx_bipush (v := 34) C dX12_format_92 (by decide) ?_
      refine zx_iload C dX12_format_94 2 rfl ?_
      refine zx_bipush (v := 30) C dX12_format_96 (by decide) ?_
      refine zx_imul C dX12_format_98 ?_
      refine zx_iadd C dX12_format_99 ?_
      obtain ⟨v113, ρ114, h115, hm⟩ := cll_e hm
      refine zx_callS (σ := σ) C [.int (x3), .int ((34) + ((x4) * (30)))] Y_X12_room W_6_209 W_6_210 (c_X12_room h115) (by decide) (by decide) rfl (Nat.le_of_ble_eq_true rfl) dX12_format_100 rfl ?_
      refine zx_bipush (v := 64) C dX12_format_103 (by decide) ?_
      obtain ⟨n118, k116, i117, hm⟩ := ckR_e hm
      obtain ⟨h119, hm⟩ := ckI_e hm
      refine zx_iast C k116 i117 h119 dX12_format_105 ?_
      obtain ⟨y120, hy120⟩ : ∃ z : Int32, z = (x4) + Int32.ofInt 1 := ⟨_, rfl⟩
      replace hm := ltb_e hm hy120
      refine zx_iinc C [(4, .int (y120)), (0, .ref (x0)), (3, .int (x3))] dX12_format_106 2 rfl hy120.symm (by decide) rfl ?_
      refine zx_goto C 80 dX12_format_109 (by decide) ?_
      exact zx_lv [1, 2, 0] [(0, .ref (x0)), (3, .int (x3)), (4, .int (y120))] rfl (hrc80 _ _ _ _ hm)
set_option maxRecDepth 100000 in
set_option maxHeartbeats 1000000 in
theorem l_X12_format_70 {p : Program} {l : Launch} {e : Env} {s : State} {m : MethodId} {args : Array Value} {below : List Frame} {meth : Method} {c : Code} {D : va_G} {aC : Nat → ClassId} {b0 fu : Nat} {σ0 τ : tM} {v : Int32}  (C : tCx p l s m args meth c yX12_format.cls cX12_format 5 (some .int) D aC b0 σ0) (htab : ∀ x ∈ c.exceptionTable.toList, False) (hin : meth.name = yX12_format.name)  : ∀ (n : Nat) (x0 : Nat) (x3 : Int32) (σ : tM), L_X12_format_70 b0 fu  n x0 x3 σ = some (v, τ) → tX p l e s m args below meth c 5 1 21 D aC b0 σ0 (.inl (some (.int v))) τ 70 [(0, .ref (x0)), (3, .int (x3))] [] σ := by
  intro n
  induction n with
  | zero => intro x0 x3 σ hm; unfold L_X12_format_70 at hm; cases hm
  | succ n ih =>
    intro x0 x3 σ hm
    unfold L_X12_format_70 at hm
    obtain ⟨rc70, hrc⟩ : ∃ z, z = L_X12_format_70 b0 fu  n := ⟨_, rfl⟩
    replace hm := ltb_e hm hrc
    rw [← hrc] at ih
    have hrc70 := ih
    clear ih hrc
    refine zx_iload_n C dX12_format_70 1 rfl ?_
    refine zx_sipush (v := 2000) C dX12_format_71 (by decide) ?_
    refine zx_icmp_ge C 118 dX12_format_74 (by decide) (fun c15 => ?_) (fun c15 => ?_)
    · replace hm := ip_e hm c15
      refine zx_aload_n C dX12_format_118 0 rfl ?_
      obtain ⟨k16, i17, hm⟩ := ckO_e hm
      obtain ⟨a18, h19, hm⟩ := osm_e hm
      refine zx_get (j := 1) C tC_11 k16 i17 ⟨by decide, Or.inl W_6_221⟩ dX12_format_119 (.ref a18) (rf_s h19) ?_
      refine zx_iconst (v := 0) C dX12_format_122 (by decide) ?_
      refine zx_iconst (v := 2) C dX12_format_123 (by decide) ?_
      obtain ⟨n22, k20, i21, hm⟩ := ckR_e hm
      obtain ⟨h23, hm⟩ := ckI_e hm
      refine zx_iast C k20 i21 h23 dX12_format_124 ?_
      refine zx_aload_n C dX12_format_125 0 rfl ?_
      refine zx_iconst (v := 0) C dX12_format_126 (by decide) ?_
      refine zx_put (j := 4) (ρ := sI (sI (σ) (a18) (((0 : Int32)).toNatClampNeg) (2)) (x0) 4 (0)) C tC_11 k16 i17 ⟨by decide, Or.inl W_6_224⟩ rfl rfl rfl (sI_ok (fun _ => rfl)) dX12_format_127 ?_
      refine zx_iconst (v := 0) C dX12_format_130 (by decide) ?_
      refine zx_istore_n C [(3, .int (0)), (0, .ref (x0))] dX12_format_131 rfl (by decide) rfl ?_
      exact zx_lv [1, 0] [(0, .ref (x0)), (3, .int (0))] rfl (l_X12_format_132 C htab hin  _ _ _ _ hm)
    · replace hm := in_e hm c15
      refine zx_iconst (v := 0) C dX12_format_77 (by decide) ?_
      refine zx_istore C [(4, .int (0)), (0, .ref (x0)), (3, .int (x3))] dX12_format_78 (by decide) rfl ?_
      exact zx_lv [1, 2, 0] [(0, .ref (x0)), (3, .int (x3)), (4, .int (0))] rfl (l_X12_format_80 C htab hin hrc70 _ _ _ _ _ hm)
set_option maxRecDepth 100000 in
set_option maxHeartbeats 1000000 in
theorem l_X12_format_46 {p : Program} {l : Launch} {e : Env} {s : State} {m : MethodId} {args : Array Value} {below : List Frame} {meth : Method} {c : Code} {D : va_G} {aC : Nat → ClassId} {b0 fu : Nat} {σ0 τ : tM} {v : Int32}  (C : tCx p l s m args meth c yX12_format.cls cX12_format 5 (some .int) D aC b0 σ0) (htab : ∀ x ∈ c.exceptionTable.toList, False) (hin : meth.name = yX12_format.name)  : ∀ (n : Nat) (x0 : Nat) (x3 : Int32) (σ : tM), L_X12_format_46 b0 fu  n x0 x3 σ = some (v, τ) → tX p l e s m args below meth c 5 1 21 D aC b0 σ0 (.inl (some (.int v))) τ 46 [(0, .ref (x0)), (3, .int (x3))] [] σ := by
  intro n
  induction n with
  | zero => intro x0 x3 σ hm; unfold L_X12_format_46 at hm; cases hm
  | succ n ih =>
    intro x0 x3 σ hm
    unfold L_X12_format_46 at hm
    obtain ⟨rc46, hrc⟩ : ∃ z, z = L_X12_format_46 b0 fu  n := ⟨_, rfl⟩
    replace hm := ltb_e hm hrc
    rw [← hrc] at ih
    have hrc46 := ih
    clear ih hrc
    refine zx_iload_n C dX12_format_46 1 rfl ?_
    refine zx_aload_n C dX12_format_47 0 rfl ?_
    obtain ⟨k7, i8, hm⟩ := ckO_e hm
    obtain ⟨a9, h10, hm⟩ := osm_e hm
    refine zx_get (j := 1) C tC_11 k7 i8 ⟨by decide, Or.inl W_6_221⟩ dX12_format_48 (.ref a9) (rf_s h10) ?_
    obtain ⟨n13, k11, i12, hm⟩ := ckR_e hm
    refine zx_alen C k11 (by decide) i12 dX12_format_51 ?_
    refine zx_icmp_ge C 68 dX12_format_52 (by decide) (fun c14 => ?_) (fun c14 => ?_)
    · replace hm := ip_e hm c14
      refine zx_iconst (v := 0) C dX12_format_68 (by decide) ?_
      refine zx_istore_n C [(3, .int (0)), (0, .ref (x0))] dX12_format_69 rfl (by decide) rfl ?_
      exact zx_lv [1, 0] [(0, .ref (x0)), (3, .int (0))] rfl (l_X12_format_70 C htab hin  _ _ _ _ hm)
    · replace hm := in_e hm c14
      refine zx_aload_n C dX12_format_55 0 rfl ?_
      obtain ⟨a121, h122, hm⟩ := osm_e hm
      refine zx_get (j := 1) C tC_11 k7 i8 ⟨by decide, Or.inl W_6_221⟩ dX12_format_56 (.ref a121) (rf_s h122) ?_
      refine zx_iload_n C dX12_format_59 1 rfl ?_
      refine zx_iconst (v := 0) C dX12_format_60 (by decide) ?_
      obtain ⟨n125, k123, i124, hm⟩ := ckR_e hm
      obtain ⟨h126, hm⟩ := ckI_e hm
      refine zx_iast C k123 i124 h126 dX12_format_61 ?_
      obtain ⟨y127, hy127⟩ : ∃ z : Int32, z = (x3) + Int32.ofInt 1 := ⟨_, rfl⟩
      replace hm := ltb_e hm hy127
      refine zx_iinc C [(3, .int (y127)), (0, .ref (x0))] dX12_format_62 1 rfl hy127.symm (by decide) rfl ?_
      refine zx_goto C 46 dX12_format_65 (by decide) ?_
      exact zx_lv [1, 0] [(0, .ref (x0)), (3, .int (y127))] rfl (hrc46 _ _ _ hm)
set_option maxRecDepth 100000 in
set_option maxHeartbeats 1000000 in
theorem c_X12_format {l : Launch} {D : va_G} {aC : Nat → ClassId} {b0 fu : Nat} {a0 : Nat} {p0 : Int32} {p1 : Int32} {σ τ : tM} {v : Int32} (hm : m_X12_format b0 fu a0 p0 p1 σ = some (v, τ)) : tMt l D aC b0 yX12_format (Cond.code yX12_format cX12_format 5 (some .int)) 1 21 [.ref (a0), .int (p0), .int (p1)] σ (.inl (some (.int v))) τ := by
  unfold m_X12_format at hm
  obtain ⟨hg, hm⟩ := grw_e hm
  refine tMt_of (n := 0) rfl (Nat.le_of_ble_eq_true rfl) hg ?_
  intro p e s m below meth c C htab hin
  refine zx_lv [0, 1, 2] [(0, .ref (a0)), (1, .int (p0)), (2, .int (p1))] rfl ?_
  refine zx_aload_n C dX12_format_0 0 rfl ?_
  refine zx_iconst (v := 0) C dX12_format_1 (by decide) ?_
  obtain ⟨k1, i2, hm⟩ := ckO_e hm
  refine zx_put (j := 0) (ρ := sI (σ) (a0) 0 (0)) C tC_11 k1 i2 ⟨by decide, Or.inl W_6_220⟩ rfl rfl rfl (sI_ok (fun _ => rfl)) dX12_format_2 ?_
  refine zx_iload_n C dX12_format_5 1 rfl ?_
  refine zx_bipush (v := 40) C dX12_format_6 (by decide) ?_
  refine zx_icmp_lt C 31 dX12_format_8 (by decide) (fun c3 => ?_) (fun c3 => ?_)
  · replace hm := ip_e hm c3
    exact zx_lv [] [] rfl (j_X12_format_31 C htab hin    hm)
  · replace hm := in_e hm c3
    refine zx_iload_n C dX12_format_11 1 rfl ?_
    refine zx_sipush (v := 4096) C dX12_format_12 (by decide) ?_
    refine zx_icmp_gt C 31 dX12_format_15 (by decide) (fun c4 => ?_) (fun c4 => ?_)
    · replace hm := ip_e hm c4
      exact zx_lv [] [] rfl (j_X12_format_31 C htab hin    hm)
    · replace hm := in_e hm c4
      refine zx_iload_n C dX12_format_18 2 rfl ?_
      refine zx_bipush (v := 16) C dX12_format_19 (by decide) ?_
      refine zx_icmp_lt C 31 dX12_format_21 (by decide) (fun c5 => ?_) (fun c5 => ?_)
      · replace hm := ip_e hm c5
        exact zx_lv [] [] rfl (j_X12_format_31 C htab hin    hm)
      · replace hm := in_e hm c5
        refine zx_iload_n C dX12_format_24 2 rfl ?_
        refine zx_sipush (v := 2000) C dX12_format_25 (by decide) ?_
        refine zx_icmp_le C 34 dX12_format_28 (by decide) (fun c6 => ?_) (fun c6 => ?_)
        · replace hm := ip_e hm c6
          refine zx_aload_n C dX12_format_34 0 rfl ?_
          refine zx_iload_n C dX12_format_35 1 rfl ?_
          refine zx_put (j := 6) (ρ := sI (sI (σ) (a0) 0 (0)) (a0) 6 (p0)) C tC_11 k1 i2 ⟨by decide, Or.inl W_6_225⟩ rfl rfl rfl (sI_ok (fun _ => rfl)) dX12_format_36 ?_
          refine zx_aload_n C dX12_format_39 0 rfl ?_
          refine zx_iload_n C dX12_format_40 2 rfl ?_
          refine zx_put (j := 7) (ρ := sI (sI (sI (σ) (a0) 0 (0)) (a0) 6 (p0)) (a0) 7 (p1)) C tC_11 k1 i2 ⟨by decide, Or.inl W_6_226⟩ rfl rfl rfl (sI_ok (fun _ => rfl)) dX12_format_41 ?_
          refine zx_iconst (v := 0) C dX12_format_44 (by decide) ?_
          refine zx_istore_n C [(3, .int (0)), (0, .ref (a0)), (1, .int (p0)), (2, .int (p1))] dX12_format_45 rfl (by decide) rfl ?_
          exact zx_lv [1, 0] [(0, .ref (a0)), (3, .int (0))] rfl (l_X12_format_46 C htab hin  _ _ _ _ hm)
        · replace hm := in_e hm c6
          exact zx_lv [] [] rfl (j_X12_format_31 C htab hin    hm)
abbrev cX12_feed : ByteArray := prog_13_method_68_code
def yX12_feed : MethodName := ⟨"SyncTreeModel", "feed", "(IIIII)I"⟩
theorem Y_X12_feed : tY yX12_feed cX12_feed 8 (some .int) 5 := ⟨W_7_164, W_1_14, ⟨by decide +kernel, by decide +kernel⟩, by decide +kernel⟩
theorem dX12_feed_0 : decode cX12_feed 0 = .ok (.aload_n 0, 1) := by decide +kernel
theorem dX12_feed_1 : decode cX12_feed 1 = .ok (.iconst 0, 1) := by decide +kernel
theorem dX12_feed_2 : decode cX12_feed 2 = .ok (.putfield 3, 3) := by decide +kernel
theorem dX12_feed_5 : decode cX12_feed 5 = .ok (.aload_n 0, 1) := by decide +kernel
theorem dX12_feed_6 : decode cX12_feed 6 = .ok (.getfield 400, 3) := by decide +kernel
theorem dX12_feed_9 : decode cX12_feed 9 = .ok (.bipush 20, 2) := by decide +kernel
theorem dX12_feed_11 : decode cX12_feed 11 = .ok (.iadd, 1) := by decide +kernel
theorem dX12_feed_12 : decode cX12_feed 12 = .ok (.sipush 4000, 3) := by decide +kernel
theorem dX12_feed_15 : decode cX12_feed 15 = .ok (.if_icmp .le 6, 3) := by decide +kernel
theorem dX12_feed_18 : decode cX12_feed 18 = .ok (.bipush (-9), 2) := by decide +kernel
theorem dX12_feed_20 : decode cX12_feed 20 = .ok (.ireturn, 1) := by decide +kernel
theorem dX12_feed_21 : decode cX12_feed 21 = .ok (.iconst 0, 1) := by decide +kernel
theorem dX12_feed_22 : decode cX12_feed 22 = .ok (.istore 6, 2) := by decide +kernel
theorem dX12_feed_24 : decode cX12_feed 24 = .ok (.iload 6, 2) := by decide +kernel
theorem dX12_feed_26 : decode cX12_feed 26 = .ok (.bipush 20, 2) := by decide +kernel
theorem dX12_feed_28 : decode cX12_feed 28 = .ok (.if_icmp .ge 83, 3) := by decide +kernel
theorem dX12_feed_31 : decode cX12_feed 31 = .ok (.iload 6, 2) := by decide +kernel
theorem dX12_feed_33 : decode cX12_feed 33 = .ok (.iconst 4, 1) := by decide +kernel
theorem dX12_feed_34 : decode cX12_feed 34 = .ok (.if_icmp .ge 7, 3) := by decide +kernel
theorem dX12_feed_37 : decode cX12_feed 37 = .ok (.iload_n 1, 1) := by decide +kernel
theorem dX12_feed_38 : decode cX12_feed 38 = .ok (.goto 39, 3) := by decide +kernel
theorem dX12_feed_41 : decode cX12_feed 41 = .ok (.iload 6, 2) := by decide +kernel
theorem dX12_feed_43 : decode cX12_feed 43 = .ok (.bipush 8, 2) := by decide +kernel
theorem dX12_feed_45 : decode cX12_feed 45 = .ok (.if_icmp .ge 7, 3) := by decide +kernel
theorem dX12_feed_48 : decode cX12_feed 48 = .ok (.iload_n 2, 1) := by decide +kernel
theorem dX12_feed_49 : decode cX12_feed 49 = .ok (.goto 28, 3) := by decide +kernel
theorem dX12_feed_52 : decode cX12_feed 52 = .ok (.iload 6, 2) := by decide +kernel
theorem dX12_feed_54 : decode cX12_feed 54 = .ok (.bipush 12, 2) := by decide +kernel
theorem dX12_feed_56 : decode cX12_feed 56 = .ok (.if_icmp .ge 7, 3) := by decide +kernel
theorem dX12_feed_59 : decode cX12_feed 59 = .ok (.iload_n 3, 1) := by decide +kernel
theorem dX12_feed_60 : decode cX12_feed 60 = .ok (.goto 17, 3) := by decide +kernel
theorem dX12_feed_63 : decode cX12_feed 63 = .ok (.iload 6, 2) := by decide +kernel
theorem dX12_feed_65 : decode cX12_feed 65 = .ok (.bipush 16, 2) := by decide +kernel
theorem dX12_feed_67 : decode cX12_feed 67 = .ok (.if_icmp .ge 8, 3) := by decide +kernel
theorem dX12_feed_70 : decode cX12_feed 70 = .ok (.iload 4, 2) := by decide +kernel
theorem dX12_feed_72 : decode cX12_feed 72 = .ok (.goto 5, 3) := by decide +kernel
theorem dX12_feed_75 : decode cX12_feed 75 = .ok (.iload 5, 2) := by decide +kernel
theorem dX12_feed_77 : decode cX12_feed 77 = .ok (.istore 7, 2) := by decide +kernel
theorem dX12_feed_79 : decode cX12_feed 79 = .ok (.aload_n 0, 1) := by decide +kernel
theorem dX12_feed_80 : decode cX12_feed 80 = .ok (.getfield 391, 3) := by decide +kernel
theorem dX12_feed_83 : decode cX12_feed 83 = .ok (.aload_n 0, 1) := by decide +kernel
theorem dX12_feed_84 : decode cX12_feed 84 = .ok (.getfield 400, 3) := by decide +kernel
theorem dX12_feed_87 : decode cX12_feed 87 = .ok (.iload 6, 2) := by decide +kernel
theorem dX12_feed_89 : decode cX12_feed 89 = .ok (.iadd, 1) := by decide +kernel
theorem dX12_feed_90 : decode cX12_feed 90 = .ok (.iload 7, 2) := by decide +kernel
theorem dX12_feed_92 : decode cX12_feed 92 = .ok (.bipush 24, 2) := by decide +kernel
theorem dX12_feed_94 : decode cX12_feed 94 = .ok (.bipush 8, 2) := by decide +kernel
theorem dX12_feed_96 : decode cX12_feed 96 = .ok (.iload 6, 2) := by decide +kernel
theorem dX12_feed_98 : decode cX12_feed 98 = .ok (.iconst 4, 1) := by decide +kernel
theorem dX12_feed_99 : decode cX12_feed 99 = .ok (.irem, 1) := by decide +kernel
theorem dX12_feed_100 : decode cX12_feed 100 = .ok (.imul, 1) := by decide +kernel
theorem dX12_feed_101 : decode cX12_feed 101 = .ok (.isub, 1) := by decide +kernel
theorem dX12_feed_102 : decode cX12_feed 102 = .ok (.ishr, 1) := by decide +kernel
theorem dX12_feed_103 : decode cX12_feed 103 = .ok (.i2b, 1) := by decide +kernel
theorem dX12_feed_104 : decode cX12_feed 104 = .ok (.bastore, 1) := by decide +kernel
theorem dX12_feed_105 : decode cX12_feed 105 = .ok (.iinc 6 1, 3) := by decide +kernel
theorem dX12_feed_108 : decode cX12_feed 108 = .ok (.goto (-84), 3) := by decide +kernel
theorem dX12_feed_111 : decode cX12_feed 111 = .ok (.aload_n 0, 1) := by decide +kernel
theorem dX12_feed_112 : decode cX12_feed 112 = .ok (.dup, 1) := by decide +kernel
theorem dX12_feed_113 : decode cX12_feed 113 = .ok (.getfield 400, 3) := by decide +kernel
theorem dX12_feed_116 : decode cX12_feed 116 = .ok (.bipush 20, 2) := by decide +kernel
theorem dX12_feed_118 : decode cX12_feed 118 = .ok (.iadd, 1) := by decide +kernel
theorem dX12_feed_119 : decode cX12_feed 119 = .ok (.putfield 400, 3) := by decide +kernel
theorem dX12_feed_122 : decode cX12_feed 122 = .ok (.aload_n 0, 1) := by decide +kernel
theorem dX12_feed_123 : decode cX12_feed 123 = .ok (.getfield 400, 3) := by decide +kernel
theorem dX12_feed_126 : decode cX12_feed 126 = .ok (.ireturn, 1) := by decide +kernel
def J_X12_feed_77 (b0 fu : Nat) (rc24 : Nat → Int32 → Int32 → Int32 → Int32 → Int32 → Int32 → tM → Option ((Int32) × tM)) (x0 : Nat) (x1 : Int32) (x2 : Int32) (x3 : Int32) (x4 : Int32) (x5 : Int32) (x6 : Int32) (s0 : Int32) (σ : tM) : Option ((Int32) × tM) := ckO b0 (σ) (x0) 11 (osm (tA (σ) (x0) 56) (fun a13 => ckR b0 (σ) (a13) 1 (fun n17 => ckI ((tI (σ) (x0) 57) + (x6)) (n17) (ltb ((x6) + Int32.ofInt 1) (fun y19 => rc24 (x0) (x1) (x2) (x3) (x4) (x5) (y19) (sI (σ) (a13) (((tI (σ) (x0) 57) + (x6)).toNatClampNeg) (vp_nar .byte (((s0) >>> (((24) - ((8) * ((x6) - (x6) / (4) * (4)))) &&& 31)).toInt8.toInt32))))))))
def L_X12_feed_24 (b0 fu : Nat)  : Nat → Nat → Int32 → Int32 → Int32 → Int32 → Int32 → Int32 → tM → Option ((Int32) × tM)
  | 0, _, _, _, _, _, _, _, _ => none
  | n + 1, x0, x1, x2, x3, x4, x5, x6, σ => ltb (L_X12_feed_24 b0 fu  n) (fun rc24 => if (20) ≤ (x6) then ckO b0 (σ) (x0) 11 (some (tI (sI (σ) (x0) 57 ((tI (σ) (x0) 57) + (20))) (x0) 57, sI (σ) (x0) 57 ((tI (σ) (x0) 57) + (20)))) else if (4) ≤ (x6) then if (8) ≤ (x6) then if (12) ≤ (x6) then if (16) ≤ (x6) then J_X12_feed_77 b0 fu rc24  (x0) (x1) (x2) (x3) (x4) (x5) (x6) (x5) (σ) else J_X12_feed_77 b0 fu rc24  (x0) (x1) (x2) (x3) (x4) (x5) (x6) (x4) (σ) else J_X12_feed_77 b0 fu rc24  (x0) (x1) (x2) (x3) (x4) (x5) (x6) (x3) (σ) else J_X12_feed_77 b0 fu rc24  (x0) (x1) (x2) (x3) (x4) (x5) (x6) (x2) (σ) else J_X12_feed_77 b0 fu rc24  (x0) (x1) (x2) (x3) (x4) (x5) (x6) (x1) (σ))
def m_X12_feed (b0 fu : Nat) (a0 : Nat) (p0 : Int32) (p1 : Int32) (p2 : Int32) (p3 : Int32) (p4 : Int32) (σ : tM) : Option ((Int32) × tM) := grw σ (ckO b0 (σ) (a0) 11 (if ((tI (sI (σ) (a0) 0 (0)) (a0) 57) + (20)) ≤ (4000) then L_X12_feed_24 b0 fu  (fu) (a0) (p0) (p1) (p2) (p3) (p4) (0) (sI (σ) (a0) 0 (0)) else some ((-9), sI (σ) (a0) 0 (0))))
set_option maxRecDepth 100000 in
set_option maxHeartbeats 1000000 in
theorem j_X12_feed_77 {p : Program} {l : Launch} {e : Env} {s : State} {m : MethodId} {args : Array Value} {below : List Frame} {meth : Method} {c : Code} {D : va_G} {aC : Nat → ClassId} {b0 fu : Nat} {σ0 τ : tM} {v : Int32} {rc24 : Nat → Int32 → Int32 → Int32 → Int32 → Int32 → Int32 → tM → Option ((Int32) × tM)} (C : tCx p l s m args meth c yX12_feed.cls cX12_feed 8 (some .int) D aC b0 σ0) (htab : ∀ x ∈ c.exceptionTable.toList, False) (hin : meth.name = yX12_feed.name) (hrc24 : ∀ (x0 : Nat) (x1 : Int32) (x2 : Int32) (x3 : Int32) (x4 : Int32) (x5 : Int32) (x6 : Int32) (ρ : tM), rc24 x0 x1 x2 x3 x4 x5 x6 ρ = some (v, τ) → tX p l e s m args below meth c 8 0 0 D aC b0 σ0 (.inl (some (.int v))) τ 24 [(0, .ref (x0)), (1, .int (x1)), (2, .int (x2)), (3, .int (x3)), (4, .int (x4)), (5, .int (x5)), (6, .int (x6))] [] ρ) {x0 : Nat} {x1 : Int32} {x2 : Int32} {x3 : Int32} {x4 : Int32} {x5 : Int32} {x6 : Int32} {s0 : Int32} {σ : tM} (hm : J_X12_feed_77 b0 fu rc24 x0 x1 x2 x3 x4 x5 x6 s0 σ = some (v, τ)) : tX p l e s m args below meth c 8 0 0 D aC b0 σ0 (.inl (some (.int v))) τ 77 [(0, .ref (x0)), (1, .int (x1)), (2, .int (x2)), (3, .int (x3)), (4, .int (x4)), (5, .int (x5)), (6, .int (x6))] [.int (s0)] σ := by
  unfold J_X12_feed_77 at hm
  refine zx_istore C [(7, .int (s0)), (0, .ref (x0)), (1, .int (x1)), (2, .int (x2)), (3, .int (x3)), (4, .int (x4)), (5, .int (x5)), (6, .int (x6))] dX12_feed_77 (by decide) rfl ?_
  refine zx_aload_n C dX12_feed_79 1 rfl ?_
  obtain ⟨k11, i12, hm⟩ := ckO_e hm
  obtain ⟨a13, h14, hm⟩ := osm_e hm
  refine zx_get (j := 56) C tC_11 k11 i12 ⟨by decide, Or.inl W_7_35⟩ dX12_feed_80 (.ref a13) (rf_s h14) ?_
  refine zx_aload_n C dX12_feed_83 1 rfl ?_
  refine zx_get (j := 57) C tC_11 k11 i12 ⟨by decide, Or.inl W_7_36⟩ dX12_feed_84 (.int (tI (σ) (x0) 57)) rfl ?_
  refine zx_iload C dX12_feed_87 7 rfl ?_
  refine zx_iadd C dX12_feed_89 ?_
  refine zx_iload C dX12_feed_90 0 rfl ?_
  refine zx_bipush (v := 24) C dX12_feed_92 (by decide) ?_
  refine zx_bipush (v := 8) C dX12_feed_94 (by decide) ?_
  refine zx_iload C dX12_feed_96 7 rfl ?_
  refine zx_iconst (v := 4) C dX12_feed_98 (by decide) ?_
  refine zx_irem C dX12_feed_99 (by decide) ?_
  refine zx_imul C dX12_feed_100 ?_
  refine zx_isub C dX12_feed_101 ?_
  refine zx_ishr C dX12_feed_102 ?_
  refine zx_i2b C dX12_feed_103 ?_
  obtain ⟨n17, k15, i16, hm⟩ := ckR_e hm
  obtain ⟨h18, hm⟩ := ckI_e hm
  refine zx_bast C k15 i16 h18 dX12_feed_104 ?_
  obtain ⟨y19, hy19⟩ : ∃ z : Int32, z = (x6) + Int32.ofInt 1 := ⟨_, rfl⟩
  replace hm := ltb_e hm hy19
  refine zx_iinc C [(6, .int (y19)), (7, .int (s0)), (0, .ref (x0)), (1, .int (x1)), (2, .int (x2)), (3, .int (x3)), (4, .int (x4)), (5, .int (x5))] dX12_feed_105 7 rfl hy19.symm (by decide) rfl ?_
  refine zx_goto C 24 dX12_feed_108 (by decide) ?_
  exact zx_lv [2, 3, 4, 5, 6, 7, 0] [(0, .ref (x0)), (1, .int (x1)), (2, .int (x2)), (3, .int (x3)), (4, .int (x4)), (5, .int (x5)), (6, .int (y19))] rfl (hrc24 _ _ _ _ _ _ _ _ hm)
set_option maxRecDepth 100000 in
set_option maxHeartbeats 1000000 in
theorem l_X12_feed_24 {p : Program} {l : Launch} {e : Env} {s : State} {m : MethodId} {args : Array Value} {below : List Frame} {meth : Method} {c : Code} {D : va_G} {aC : Nat → ClassId} {b0 fu : Nat} {σ0 τ : tM} {v : Int32}  (C : tCx p l s m args meth c yX12_feed.cls cX12_feed 8 (some .int) D aC b0 σ0) (htab : ∀ x ∈ c.exceptionTable.toList, False) (hin : meth.name = yX12_feed.name)  : ∀ (n : Nat) (x0 : Nat) (x1 : Int32) (x2 : Int32) (x3 : Int32) (x4 : Int32) (x5 : Int32) (x6 : Int32) (σ : tM), L_X12_feed_24 b0 fu  n x0 x1 x2 x3 x4 x5 x6 σ = some (v, τ) → tX p l e s m args below meth c 8 0 0 D aC b0 σ0 (.inl (some (.int v))) τ 24 [(0, .ref (x0)), (1, .int (x1)), (2, .int (x2)), (3, .int (x3)), (4, .int (x4)), (5, .int (x5)), (6, .int (x6))] [] σ := by
  intro n
  induction n with
  | zero => intro x0 x1 x2 x3 x4 x5 x6 σ hm; unfold L_X12_feed_24 at hm; cases hm
  | succ n ih =>
    intro x0 x1 x2 x3 x4 x5 x6 σ hm
    unfold L_X12_feed_24 at hm
    obtain ⟨rc24, hrc⟩ : ∃ z, z = L_X12_feed_24 b0 fu  n := ⟨_, rfl⟩
    replace hm := ltb_e hm hrc
    rw [← hrc] at ih
    have hrc24 := ih
    clear ih hrc
    refine zx_iload C dX12_feed_24 6 rfl ?_
    refine zx_bipush (v := 20) C dX12_feed_26 (by decide) ?_
    refine zx_icmp_ge C 111 dX12_feed_28 (by decide) (fun c4 => ?_) (fun c4 => ?_)
    · replace hm := ip_e hm c4
      refine zx_aload_n C dX12_feed_111 0 rfl ?_
      refine zx_dup C dX12_feed_112 rfl ?_
      obtain ⟨k5, i6, hm⟩ := ckO_e hm
      refine zx_get (j := 57) C tC_11 k5 i6 ⟨by decide, Or.inl W_7_36⟩ dX12_feed_113 (.int (tI (σ) (x0) 57)) rfl ?_
      refine zx_bipush (v := 20) C dX12_feed_116 (by decide) ?_
      refine zx_iadd C dX12_feed_118 ?_
      refine zx_put (j := 57) (ρ := sI (σ) (x0) 57 ((tI (σ) (x0) 57) + (20))) C tC_11 k5 i6 ⟨by decide, Or.inl W_7_36⟩ rfl rfl rfl (sI_ok (fun _ => rfl)) dX12_feed_119 ?_
      refine zx_aload_n C dX12_feed_122 0 rfl ?_
      refine zx_get (j := 57) C tC_11 k5 i6 ⟨by decide, Or.inl W_7_36⟩ dX12_feed_123 (.int (tI (sI (σ) (x0) 57 ((tI (σ) (x0) 57) + (20))) (x0) 57)) rfl ?_
      obtain ⟨rfl, rfl⟩ := ret_e hm
      exact zx_iret C rfl rfl rfl dX12_feed_126
    · replace hm := in_e hm c4
      refine zx_iload C dX12_feed_31 6 rfl ?_
      refine zx_iconst (v := 4) C dX12_feed_33 (by decide) ?_
      refine zx_icmp_ge C 41 dX12_feed_34 (by decide) (fun c7 => ?_) (fun c7 => ?_)
      · replace hm := ip_e hm c7
        refine zx_iload C dX12_feed_41 6 rfl ?_
        refine zx_bipush (v := 8) C dX12_feed_43 (by decide) ?_
        refine zx_icmp_ge C 52 dX12_feed_45 (by decide) (fun c8 => ?_) (fun c8 => ?_)
        · replace hm := ip_e hm c8
          refine zx_iload C dX12_feed_52 6 rfl ?_
          refine zx_bipush (v := 12) C dX12_feed_54 (by decide) ?_
          refine zx_icmp_ge C 63 dX12_feed_56 (by decide) (fun c9 => ?_) (fun c9 => ?_)
          · replace hm := ip_e hm c9
            refine zx_iload C dX12_feed_63 6 rfl ?_
            refine zx_bipush (v := 16) C dX12_feed_65 (by decide) ?_
            refine zx_icmp_ge C 75 dX12_feed_67 (by decide) (fun c10 => ?_) (fun c10 => ?_)
            · replace hm := ip_e hm c10
              refine zx_iload C dX12_feed_75 5 rfl ?_
              exact zx_lv [0, 1, 2, 3, 4, 5, 6] [(0, .ref (x0)), (1, .int (x1)), (2, .int (x2)), (3, .int (x3)), (4, .int (x4)), (5, .int (x5)), (6, .int (x6))] rfl (j_X12_feed_77 C htab hin hrc24   hm)
            · replace hm := in_e hm c10
              refine zx_iload C dX12_feed_70 4 rfl ?_
              refine zx_goto C 77 dX12_feed_72 (by decide) ?_
              exact zx_lv [0, 1, 2, 3, 4, 5, 6] [(0, .ref (x0)), (1, .int (x1)), (2, .int (x2)), (3, .int (x3)), (4, .int (x4)), (5, .int (x5)), (6, .int (x6))] rfl (j_X12_feed_77 C htab hin hrc24   hm)
          · replace hm := in_e hm c9
            refine zx_iload_n C dX12_feed_59 3 rfl ?_
            refine zx_goto C 77 dX12_feed_60 (by decide) ?_
            exact zx_lv [0, 1, 2, 3, 4, 5, 6] [(0, .ref (x0)), (1, .int (x1)), (2, .int (x2)), (3, .int (x3)), (4, .int (x4)), (5, .int (x5)), (6, .int (x6))] rfl (j_X12_feed_77 C htab hin hrc24   hm)
        · replace hm := in_e hm c8
          refine zx_iload_n C dX12_feed_48 2 rfl ?_
          refine zx_goto C 77 dX12_feed_49 (by decide) ?_
          exact zx_lv [0, 1, 2, 3, 4, 5, 6] [(0, .ref (x0)), (1, .int (x1)), (2, .int (x2)), (3, .int (x3)), (4, .int (x4)), (5, .int (x5)), (6, .int (x6))] rfl (j_X12_feed_77 C htab hin hrc24   hm)
      · replace hm := in_e hm c7
        refine zx_iload_n C dX12_feed_37 1 rfl ?_
        refine zx_goto C 77 dX12_feed_38 (by decide) ?_
        exact zx_lv [0, 1, 2, 3, 4, 5, 6] [(0, .ref (x0)), (1, .int (x1)), (2, .int (x2)), (3, .int (x3)), (4, .int (x4)), (5, .int (x5)), (6, .int (x6))] rfl (j_X12_feed_77 C htab hin hrc24   hm)
set_option maxRecDepth 100000 in
set_option maxHeartbeats 1000000 in
theorem c_X12_feed {l : Launch} {D : va_G} {aC : Nat → ClassId} {b0 fu : Nat} {a0 : Nat} {p0 : Int32} {p1 : Int32} {p2 : Int32} {p3 : Int32} {p4 : Int32} {σ τ : tM} {v : Int32} (hm : m_X12_feed b0 fu a0 p0 p1 p2 p3 p4 σ = some (v, τ)) : tMt l D aC b0 yX12_feed (Cond.code yX12_feed cX12_feed 8 (some .int)) 0 0 [.ref (a0), .int (p0), .int (p1), .int (p2), .int (p3), .int (p4)] σ (.inl (some (.int v))) τ := by
  unfold m_X12_feed at hm
  obtain ⟨hg, hm⟩ := grw_e hm
  refine tMt_of (n := 0) rfl (Nat.le_of_ble_eq_true rfl) hg ?_
  intro p e s m below meth c C htab hin
  refine zx_lv [0, 1, 2, 3, 4, 5] [(0, .ref (a0)), (1, .int (p0)), (2, .int (p1)), (3, .int (p2)), (4, .int (p3)), (5, .int (p4))] rfl ?_
  refine zx_aload_n C dX12_feed_0 0 rfl ?_
  refine zx_iconst (v := 0) C dX12_feed_1 (by decide) ?_
  obtain ⟨k1, i2, hm⟩ := ckO_e hm
  refine zx_put (j := 0) (ρ := sI (σ) (a0) 0 (0)) C tC_11 k1 i2 ⟨by decide, Or.inl W_6_220⟩ rfl rfl rfl (sI_ok (fun _ => rfl)) dX12_feed_2 ?_
  refine zx_aload_n C dX12_feed_5 0 rfl ?_
  refine zx_get (j := 57) C tC_11 k1 i2 ⟨by decide, Or.inl W_7_36⟩ dX12_feed_6 (.int (tI (sI (σ) (a0) 0 (0)) (a0) 57)) rfl ?_
  refine zx_bipush (v := 20) C dX12_feed_9 (by decide) ?_
  refine zx_iadd C dX12_feed_11 ?_
  refine zx_sipush (v := 4000) C dX12_feed_12 (by decide) ?_
  refine zx_icmp_le C 21 dX12_feed_15 (by decide) (fun c3 => ?_) (fun c3 => ?_)
  · replace hm := ip_e hm c3
    refine zx_iconst (v := 0) C dX12_feed_21 (by decide) ?_
    refine zx_istore C [(6, .int (0)), (0, .ref (a0)), (1, .int (p0)), (2, .int (p1)), (3, .int (p2)), (4, .int (p3)), (5, .int (p4))] dX12_feed_22 (by decide) rfl ?_
    exact zx_lv [1, 2, 3, 4, 5, 6, 0] [(0, .ref (a0)), (1, .int (p0)), (2, .int (p1)), (3, .int (p2)), (4, .int (p3)), (5, .int (p4)), (6, .int (0))] rfl (l_X12_feed_24 C htab hin  _ _ _ _ _ _ _ _ _ hm)
  · replace hm := in_e hm c3
    refine zx_bipush (v := (-9)) C dX12_feed_18 (by decide) ?_
    obtain ⟨rfl, rfl⟩ := ret_e hm
    exact zx_iret C rfl rfl rfl dX12_feed_20
