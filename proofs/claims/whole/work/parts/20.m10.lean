abbrev cX10_total : ByteArray := prog_1_method_47_code
def yX10_total : MethodName := ⟨"SyncTree", "total", "(I)I"⟩
theorem Y_X10_total : tY yX10_total cX10_total 2 (some .int) 1 := ⟨W_3_70, W_1_1, ⟨by decide +kernel, by decide +kernel⟩, by decide +kernel⟩
theorem dX10_total_0 : decode cX10_total 0 = .ok (.iload_n 1, 1) := by decide +kernel
theorem dX10_total_1 : decode cX10_total 1 = .ok (.ifCond .lt 9, 3) := by decide +kernel
theorem dX10_total_4 : decode cX10_total 4 = .ok (.iload_n 1, 1) := by decide +kernel
theorem dX10_total_5 : decode cX10_total 5 = .ok (.bipush 18, 2) := by decide +kernel
theorem dX10_total_7 : decode cX10_total 7 = .ok (.if_icmp .le 6, 3) := by decide +kernel
theorem dX10_total_10 : decode cX10_total 10 = .ok (.bipush (-9), 2) := by decide +kernel
theorem dX10_total_12 : decode cX10_total 12 = .ok (.ireturn, 1) := by decide +kernel
theorem dX10_total_13 : decode cX10_total 13 = .ok (.iload_n 1, 1) := by decide +kernel
theorem dX10_total_14 : decode cX10_total 14 = .ok (.iconst 5, 1) := by decide +kernel
theorem dX10_total_15 : decode cX10_total 15 = .ok (.if_icmp .ge 12, 3) := by decide +kernel
theorem dX10_total_18 : decode cX10_total 18 = .ok (.aload_n 0, 1) := by decide +kernel
theorem dX10_total_19 : decode cX10_total 19 = .ok (.getfield 12, 3) := by decide +kernel
theorem dX10_total_22 : decode cX10_total 22 = .ok (.iload_n 1, 1) := by decide +kernel
theorem dX10_total_23 : decode cX10_total 23 = .ok (.invokevirtual 374, 3) := by decide +kernel
theorem dX10_total_26 : decode cX10_total 26 = .ok (.ireturn, 1) := by decide +kernel
theorem dX10_total_27 : decode cX10_total 27 = .ok (.aload_n 0, 1) := by decide +kernel
theorem dX10_total_28 : decode cX10_total 28 = .ok (.getfield 12, 3) := by decide +kernel
theorem dX10_total_31 : decode cX10_total 31 = .ok (.getfield 352, 3) := by decide +kernel
theorem dX10_total_34 : decode cX10_total 34 = .ok (.ifCond .ne 5, 3) := by decide +kernel
theorem dX10_total_37 : decode cX10_total 37 = .ok (.iconst (-1), 1) := by decide +kernel
theorem dX10_total_38 : decode cX10_total 38 = .ok (.ireturn, 1) := by decide +kernel
theorem dX10_total_39 : decode cX10_total 39 = .ok (.iload_n 1, 1) := by decide +kernel
theorem dX10_total_40 : decode cX10_total 40 = .ok (.bipush 8, 2) := by decide +kernel
theorem dX10_total_42 : decode cX10_total 42 = .ok (.if_icmp .ne 11, 3) := by decide +kernel
theorem dX10_total_45 : decode cX10_total 45 = .ok (.aload_n 0, 1) := by decide +kernel
theorem dX10_total_46 : decode cX10_total 46 = .ok (.getfield 28, 3) := by decide +kernel
theorem dX10_total_49 : decode cX10_total 49 = .ok (.invokevirtual 377, 3) := by decide +kernel
theorem dX10_total_52 : decode cX10_total 52 = .ok (.ireturn, 1) := by decide +kernel
theorem dX10_total_53 : decode cX10_total 53 = .ok (.iload_n 1, 1) := by decide +kernel
theorem dX10_total_54 : decode cX10_total 54 = .ok (.bipush 12, 2) := by decide +kernel
theorem dX10_total_56 : decode cX10_total 56 = .ok (.if_icmp .ge 14, 3) := by decide +kernel
theorem dX10_total_59 : decode cX10_total 59 = .ok (.aload_n 0, 1) := by decide +kernel
theorem dX10_total_60 : decode cX10_total 60 = .ok (.getfield 19, 3) := by decide +kernel
theorem dX10_total_63 : decode cX10_total 63 = .ok (.iload_n 1, 1) := by decide +kernel
theorem dX10_total_64 : decode cX10_total 64 = .ok (.invokevirtual 380, 3) := by decide +kernel
theorem dX10_total_67 : decode cX10_total 67 = .ok (.goto 11, 3) := by decide +kernel
theorem dX10_total_70 : decode cX10_total 70 = .ok (.aload_n 0, 1) := by decide +kernel
theorem dX10_total_71 : decode cX10_total 71 = .ok (.getfield 37, 3) := by decide +kernel
theorem dX10_total_74 : decode cX10_total 74 = .ok (.iload_n 1, 1) := by decide +kernel
theorem dX10_total_75 : decode cX10_total 75 = .ok (.invokevirtual 381, 3) := by decide +kernel
theorem dX10_total_78 : decode cX10_total 78 = .ok (.ireturn, 1) := by decide +kernel
def J_X10_total_10 (b0 fu : Nat)   (σ : tM) : Option ((Int32) × tM) := some ((-9), σ)
def J_X10_total_78 (b0 fu : Nat)  (s0 : Int32) (σ : tM) : Option ((Int32) × tM) := some (s0, σ)
def m_X10_total (b0 fu : Nat) (a0 : Nat) (p0 : Int32) (σ : tM) : Option ((Int32) × tM) := grw σ (if (p0) < (0) then J_X10_total_10 b0 fu    (σ) else if (p0) ≤ (18) then if (5) ≤ (p0) then ckO b0 (σ) (a0) 10 (osm (tA (σ) (a0) 0) (fun a6 => ckO b0 (σ) (a6) 0 (if (tI (σ) (a6) 14) = (0) then some ((-1), σ) else if (p0) = (8) then osm (tA (σ) (a0) 2) (fun a27 => ckO b0 (σ) (a27) 8 (cll (m_X8_countUnused b0 fu (a27) (σ)) (fun v31 ρ32 => some (v31, ρ32)))) else if (12) ≤ (p0) then osm (tA (σ) (a0) 3) (fun a13 => ckO b0 (σ) (a13) 1 (cll (m_X1_figure b0 fu (a13) (p0) (σ)) (fun v17 ρ18 => J_X10_total_78 b0 fu   (v17) (ρ18)))) else osm (tA (σ) (a0) 1) (fun a20 => ckO b0 (σ) (a20) 5 (cll (m_X5_figure b0 fu (a20) (p0) (σ)) (fun v24 ρ25 => J_X10_total_78 b0 fu   (v24) (ρ25))))))) else ckO b0 (σ) (a0) 10 (osm (tA (σ) (a0) 0) (fun a36 => ckO b0 (σ) (a36) 0 (cll (m_X0_figure b0 fu (a36) (p0) (σ)) (fun v40 ρ41 => some (v40, ρ41))))) else J_X10_total_10 b0 fu    (σ))
set_option maxRecDepth 100000 in
set_option maxHeartbeats 1000000 in
theorem j_X10_total_10 {p : Program} {l : Launch} {e : Env} {s : State} {m : MethodId} {args : Array Value} {below : List Frame} {meth : Method} {c : Code} {D : va_G} {aC : Nat → ClassId} {b0 fu : Nat} {σ0 τ : tM} {v : Int32}  (C : tCx p l s m args meth c yX10_total.cls cX10_total 2 (some .int) D aC b0 σ0) (htab : ∀ x ∈ c.exceptionTable.toList, False) (hin : meth.name = yX10_total.name)   {σ : tM} (hm : J_X10_total_10 b0 fu   σ = some (v, τ)) : tX p l e s m args below meth c 2 3 65 D aC b0 σ0 (.inl (some (.int v))) τ 10 [] [] σ := by
  unfold J_X10_total_10 at hm
  refine zx_bipush (v := (-9)) C dX10_total_10 (by decide) ?_
  obtain ⟨rfl, rfl⟩ := ret_e hm
  exact zx_iret C rfl rfl rfl dX10_total_12
set_option maxRecDepth 100000 in
set_option maxHeartbeats 1000000 in
theorem j_X10_total_78 {p : Program} {l : Launch} {e : Env} {s : State} {m : MethodId} {args : Array Value} {below : List Frame} {meth : Method} {c : Code} {D : va_G} {aC : Nat → ClassId} {b0 fu : Nat} {σ0 τ : tM} {v : Int32}  (C : tCx p l s m args meth c yX10_total.cls cX10_total 2 (some .int) D aC b0 σ0) (htab : ∀ x ∈ c.exceptionTable.toList, False) (hin : meth.name = yX10_total.name)  {s0 : Int32} {σ : tM} (hm : J_X10_total_78 b0 fu  s0 σ = some (v, τ)) : tX p l e s m args below meth c 2 3 65 D aC b0 σ0 (.inl (some (.int v))) τ 78 [] [.int (s0)] σ := by
  unfold J_X10_total_78 at hm
  obtain ⟨rfl, rfl⟩ := ret_e hm
  exact zx_iret C rfl rfl rfl dX10_total_78
set_option maxRecDepth 100000 in
set_option maxHeartbeats 1000000 in
theorem c_X10_total {l : Launch} {D : va_G} {aC : Nat → ClassId} {b0 fu : Nat} {a0 : Nat} {p0 : Int32} {σ τ : tM} {v : Int32} (hm : m_X10_total b0 fu a0 p0 σ = some (v, τ)) : tMt l D aC b0 yX10_total (Cond.code yX10_total cX10_total 2 (some .int)) 3 65 [.ref (a0), .int (p0)] σ (.inl (some (.int v))) τ := by
  unfold m_X10_total at hm
  obtain ⟨hg, hm⟩ := grw_e hm
  refine tMt_of (n := 0) rfl (Nat.le_of_ble_eq_true rfl) hg ?_
  intro p e s m below meth c C htab hin
  refine zx_lv [0, 1] [(0, .ref (a0)), (1, .int (p0))] rfl ?_
  refine zx_iload_n C dX10_total_0 1 rfl ?_
  refine zx_if_lt C 10 dX10_total_1 (by decide) (fun c1 => ?_) (fun c1 => ?_)
  · replace hm := ip_e hm c1
    exact zx_lv [] [] rfl (j_X10_total_10 C htab hin    hm)
  · replace hm := in_e hm c1
    refine zx_iload_n C dX10_total_4 1 rfl ?_
    refine zx_bipush (v := 18) C dX10_total_5 (by decide) ?_
    refine zx_icmp_le C 13 dX10_total_7 (by decide) (fun c2 => ?_) (fun c2 => ?_)
    · replace hm := ip_e hm c2
      refine zx_iload_n C dX10_total_13 1 rfl ?_
      refine zx_iconst (v := 5) C dX10_total_14 (by decide) ?_
      refine zx_icmp_ge C 27 dX10_total_15 (by decide) (fun c3 => ?_) (fun c3 => ?_)
      · replace hm := ip_e hm c3
        refine zx_aload_n C dX10_total_27 0 rfl ?_
        obtain ⟨k4, i5, hm⟩ := ckO_e hm
        obtain ⟨a6, h7, hm⟩ := osm_e hm
        refine zx_get (j := 0) C tC_10 k4 i5 ⟨by decide, Or.inl W_2_213⟩ dX10_total_28 (.ref a6) (rf_s h7) ?_
        obtain ⟨k8, i9, hm⟩ := ckO_e hm
        refine zx_get (j := 14) C tC_0 k8 i9 ⟨by decide, Or.inr ⟨_, W_1_53⟩⟩ dX10_total_31 (.int (tI (σ) (a6) 14)) rfl ?_
        refine zx_if_ne C 39 dX10_total_34 (by decide) (fun c10 => ?_) (fun c10 => ?_)
        · replace hm := in_e hm c10
          refine zx_iload_n C dX10_total_39 1 rfl ?_
          refine zx_bipush (v := 8) C dX10_total_40 (by decide) ?_
          refine zx_icmp_ne C 53 dX10_total_42 (by decide) (fun c11 => ?_) (fun c11 => ?_)
          · replace hm := in_e hm c11
            refine zx_iload_n C dX10_total_53 1 rfl ?_
            refine zx_bipush (v := 12) C dX10_total_54 (by decide) ?_
            refine zx_icmp_ge C 70 dX10_total_56 (by decide) (fun c12 => ?_) (fun c12 => ?_)
            · replace hm := ip_e hm c12
              refine zx_aload_n C dX10_total_70 0 rfl ?_
              obtain ⟨a13, h14, hm⟩ := osm_e hm
              refine zx_get (j := 3) C tC_10 k4 i5 ⟨by decide, Or.inl W_2_216⟩ dX10_total_71 (.ref a13) (rf_s h14) ?_
              refine zx_iload_n C dX10_total_74 1 rfl ?_
              obtain ⟨k15, i16, hm⟩ := ckO_e hm
              obtain ⟨v17, ρ18, h19, hm⟩ := cll_e hm
              refine zx_callV (σ := σ) C [.int (p0)] tC_1 k15 i16 Y_X1_figure W_3_96 W_3_97 W_3_98 (c_X1_figure h19) (by decide) (by decide) rfl (Nat.le_of_ble_eq_true rfl) dX10_total_75 rfl ?_
              exact zx_lv [] [] rfl (j_X10_total_78 C htab hin    hm)
            · replace hm := in_e hm c12
              refine zx_aload_n C dX10_total_59 0 rfl ?_
              obtain ⟨a20, h21, hm⟩ := osm_e hm
              refine zx_get (j := 1) C tC_10 k4 i5 ⟨by decide, Or.inl W_2_214⟩ dX10_total_60 (.ref a20) (rf_s h21) ?_
              refine zx_iload_n C dX10_total_63 1 rfl ?_
              obtain ⟨k22, i23, hm⟩ := ckO_e hm
              obtain ⟨v24, ρ25, h26, hm⟩ := cll_e hm
              refine zx_callV (σ := σ) C [.int (p0)] tC_5 k22 i23 Y_X5_figure W_3_88 W_3_89 W_3_90 (c_X5_figure h26) (by decide) (by decide) rfl (Nat.le_of_ble_eq_true rfl) dX10_total_64 rfl ?_
              refine zx_goto C 78 dX10_total_67 (by decide) ?_
              exact zx_lv [] [] rfl (j_X10_total_78 C htab hin    hm)
          · replace hm := ip_e hm c11
            refine zx_aload_n C dX10_total_45 0 rfl ?_
            obtain ⟨a27, h28, hm⟩ := osm_e hm
            refine zx_get (j := 2) C tC_10 k4 i5 ⟨by decide, Or.inl W_2_215⟩ dX10_total_46 (.ref a27) (rf_s h28) ?_
            obtain ⟨k29, i30, hm⟩ := ckO_e hm
            obtain ⟨v31, ρ32, h33, hm⟩ := cll_e hm
            refine zx_callV (σ := σ) C [] tC_8 k29 i30 Y_X8_countUnused W_3_75 W_3_76 W_3_77 (c_X8_countUnused h33) (by decide) (by decide) rfl (Nat.le_of_ble_eq_true rfl) dX10_total_49 rfl ?_
            obtain ⟨rfl, rfl⟩ := ret_e hm
            exact zx_iret C rfl rfl rfl dX10_total_52
        · replace hm := ip_e hm c10
          refine zx_iconst (v := (-1)) C dX10_total_37 (by decide) ?_
          obtain ⟨rfl, rfl⟩ := ret_e hm
          exact zx_iret C rfl rfl rfl dX10_total_38
      · replace hm := in_e hm c3
        refine zx_aload_n C dX10_total_18 0 rfl ?_
        obtain ⟨k34, i35, hm⟩ := ckO_e hm
        obtain ⟨a36, h37, hm⟩ := osm_e hm
        refine zx_get (j := 0) C tC_10 k34 i35 ⟨by decide, Or.inl W_2_213⟩ dX10_total_19 (.ref a36) (rf_s h37) ?_
        refine zx_iload_n C dX10_total_22 1 rfl ?_
        obtain ⟨k38, i39, hm⟩ := ckO_e hm
        obtain ⟨v40, ρ41, h42, hm⟩ := cll_e hm
        refine zx_callV (σ := σ) C [.int (p0)] tC_0 k38 i39 Y_X0_figure W_3_71 W_3_72 W_3_73 (c_X0_figure h42) (by decide) (by decide) rfl (Nat.le_of_ble_eq_true rfl) dX10_total_23 rfl ?_
        obtain ⟨rfl, rfl⟩ := ret_e hm
        exact zx_iret C rfl rfl rfl dX10_total_26
    · replace hm := in_e hm c2
      exact zx_lv [] [] rfl (j_X10_total_10 C htab hin    hm)
abbrev cJ7_fill_53178 : ByteArray := prog_22_method_103_code
def yJ7_fill_53178 : MethodName := ⟨"java/util/Arrays", "fill", "([II)V"⟩
theorem Y_J7_fill_53178 : tY yJ7_fill_53178 cJ7_fill_53178 4 none 2 := ⟨W_2_212, W_1_12, ⟨by decide +kernel, by decide +kernel⟩, by decide +kernel⟩
theorem dJ7_fill_53178_0 : decode cJ7_fill_53178 0 = .ok (.iconst 0, 1) := by decide +kernel
theorem dJ7_fill_53178_1 : decode cJ7_fill_53178 1 = .ok (.istore_n 2, 1) := by decide +kernel
theorem dJ7_fill_53178_2 : decode cJ7_fill_53178 2 = .ok (.aload_n 0, 1) := by decide +kernel
theorem dJ7_fill_53178_3 : decode cJ7_fill_53178 3 = .ok (.arraylength, 1) := by decide +kernel
theorem dJ7_fill_53178_4 : decode cJ7_fill_53178 4 = .ok (.istore_n 3, 1) := by decide +kernel
theorem dJ7_fill_53178_5 : decode cJ7_fill_53178 5 = .ok (.iload_n 2, 1) := by decide +kernel
theorem dJ7_fill_53178_6 : decode cJ7_fill_53178 6 = .ok (.iload_n 3, 1) := by decide +kernel
theorem dJ7_fill_53178_7 : decode cJ7_fill_53178 7 = .ok (.if_icmp .ge 13, 3) := by decide +kernel
theorem dJ7_fill_53178_10 : decode cJ7_fill_53178 10 = .ok (.aload_n 0, 1) := by decide +kernel
theorem dJ7_fill_53178_11 : decode cJ7_fill_53178 11 = .ok (.iload_n 2, 1) := by decide +kernel
theorem dJ7_fill_53178_12 : decode cJ7_fill_53178 12 = .ok (.iload_n 1, 1) := by decide +kernel
theorem dJ7_fill_53178_13 : decode cJ7_fill_53178 13 = .ok (.iastore, 1) := by decide +kernel
theorem dJ7_fill_53178_14 : decode cJ7_fill_53178 14 = .ok (.iinc 2 1, 3) := by decide +kernel
theorem dJ7_fill_53178_17 : decode cJ7_fill_53178 17 = .ok (.goto (-12), 3) := by decide +kernel
theorem dJ7_fill_53178_20 : decode cJ7_fill_53178 20 = .ok (.return_, 1) := by decide +kernel
def L_J7_fill_53178_5 (b0 fu : Nat)  : Nat → Nat → Int32 → Int32 → Int32 → tM → Option ((Unit) × tM)
  | 0, _, _, _, _, _ => none
  | n + 1, x0, x1, x2, x3, σ => ltb (L_J7_fill_53178_5 b0 fu  n) (fun rc5 => if (x3) ≤ (x2) then some ((), σ) else ckR b0 (σ) (x0) 0 (fun n8 => ckI (x2) (n8) (ltb ((x2) + Int32.ofInt 1) (fun y10 => rc5 (x0) (x1) (y10) (x3) (sI (σ) (x0) ((x2).toNatClampNeg) (x1))))))
def m_J7_fill_53178 (b0 fu : Nat) (p0 : Nat) (p1 : Int32) (σ : tM) : Option ((Unit) × tM) := grw σ (ckR b0 (σ) (p0) 0 (fun n3 => ltb ((nI n3 : Int32)) (fun y4 => L_J7_fill_53178_5 b0 fu  (fu) (p0) (p1) (0) (y4) (σ))))
set_option maxRecDepth 100000 in
set_option maxHeartbeats 1000000 in
theorem l_J7_fill_53178_5 {p : Program} {l : Launch} {e : Env} {s : State} {m : MethodId} {args : Array Value} {below : List Frame} {meth : Method} {c : Code} {D : va_G} {aC : Nat → ClassId} {b0 fu : Nat} {σ0 τ : tM} {v : Unit}  (C : tCx p l s m args meth c yJ7_fill_53178.cls cJ7_fill_53178 4 none D aC b0 σ0) (htab : ∀ x ∈ c.exceptionTable.toList, False) (hin : meth.name = yJ7_fill_53178.name)  : ∀ (n : Nat) (x0 : Nat) (x1 : Int32) (x2 : Int32) (x3 : Int32) (σ : tM), L_J7_fill_53178_5 b0 fu  n x0 x1 x2 x3 σ = some (v, τ) → tX p l e s m args below meth c 4 0 0 D aC b0 σ0 (.inl none) τ 5 [(0, .ref (x0)), (1, .int (x1)), (2, .int (x2)), (3, .int (x3))] [] σ := by
  intro n
  induction n with
  | zero => intro x0 x1 x2 x3 σ hm; unfold L_J7_fill_53178_5 at hm; cases hm
  | succ n ih =>
    intro x0 x1 x2 x3 σ hm
    unfold L_J7_fill_53178_5 at hm
    obtain ⟨rc5, hrc⟩ : ∃ z, z = L_J7_fill_53178_5 b0 fu  n := ⟨_, rfl⟩
    replace hm := ltb_e hm hrc
    rw [← hrc] at ih
    have hrc5 := ih
    clear ih hrc
    refine zx_iload_n C dJ7_fill_53178_5 2 rfl ?_
    refine zx_iload_n C dJ7_fill_53178_6 3 rfl ?_
    refine zx_icmp_ge C 20 dJ7_fill_53178_7 (by decide) (fun c5 => ?_) (fun c5 => ?_)
    · replace hm := ip_e hm c5
      obtain ⟨rfl, rfl⟩ := ret_e hm
      exact zx_vret C rfl rfl rfl dJ7_fill_53178_20
    · replace hm := in_e hm c5
      refine zx_aload_n C dJ7_fill_53178_10 0 rfl ?_
      refine zx_iload_n C dJ7_fill_53178_11 2 rfl ?_
      refine zx_iload_n C dJ7_fill_53178_12 1 rfl ?_
      obtain ⟨n8, k6, i7, hm⟩ := ckR_e hm
      obtain ⟨h9, hm⟩ := ckI_e hm
      refine zx_iast C k6 i7 h9 dJ7_fill_53178_13 ?_
      obtain ⟨y10, hy10⟩ : ∃ z : Int32, z = (x2) + Int32.ofInt 1 := ⟨_, rfl⟩
      replace hm := ltb_e hm hy10
      refine zx_iinc C [(2, .int (y10)), (0, .ref (x0)), (1, .int (x1)), (3, .int (x3))] dJ7_fill_53178_14 2 rfl hy10.symm (by decide) rfl ?_
      refine zx_goto C 5 dJ7_fill_53178_17 (by decide) ?_
      exact zx_lv [1, 2, 0, 3] [(0, .ref (x0)), (1, .int (x1)), (2, .int (y10)), (3, .int (x3))] rfl (hrc5 _ _ _ _ _ hm)
set_option maxRecDepth 100000 in
set_option maxHeartbeats 1000000 in
theorem c_J7_fill_53178 {l : Launch} {D : va_G} {aC : Nat → ClassId} {b0 fu : Nat} {p0 : Nat} {p1 : Int32} {σ τ : tM} {v : Unit} (hm : m_J7_fill_53178 b0 fu p0 p1 σ = some (v, τ)) : tMt l D aC b0 yJ7_fill_53178 (Cond.code yJ7_fill_53178 cJ7_fill_53178 4 none) 0 0 [.ref (p0), .int (p1)] σ (.inl none) τ := by
  unfold m_J7_fill_53178 at hm
  obtain ⟨hg, hm⟩ := grw_e hm
  refine tMt_of (n := 0) rfl (Nat.le_of_ble_eq_true rfl) hg ?_
  intro p e s m below meth c C htab hin
  refine zx_lv [0, 1] [(0, .ref (p0)), (1, .int (p1))] rfl ?_
  refine zx_iconst (v := 0) C dJ7_fill_53178_0 (by decide) ?_
  refine zx_istore_n C [(2, .int (0)), (0, .ref (p0)), (1, .int (p1))] dJ7_fill_53178_1 rfl (by decide) rfl ?_
  refine zx_aload_n C dJ7_fill_53178_2 1 rfl ?_
  obtain ⟨n3, k1, i2, hm⟩ := ckR_e hm
  refine zx_alen C k1 (by decide) i2 dJ7_fill_53178_3 ?_
  refine zx_topi (fun y4 hy4 => ?_)
  replace hm := ltb_e hm hy4
  refine zx_istore_n C [(3, .int (y4)), (2, .int (0)), (0, .ref (p0)), (1, .int (p1))] dJ7_fill_53178_4 rfl (by decide) rfl ?_
  exact zx_lv [2, 3, 1, 0] [(0, .ref (p0)), (1, .int (p1)), (2, .int (0)), (3, .int (y4))] rfl (l_J7_fill_53178_5 C htab hin  _ _ _ _ _ _ hm)
abbrev cJ7_fill_031fb : ByteArray := prog_22_method_109_code
def yJ7_fill_031fb : MethodName := ⟨"java/util/Arrays", "fill", "([BB)V"⟩
theorem Y_J7_fill_031fb : tY yJ7_fill_031fb cJ7_fill_031fb 4 none 2 := ⟨W_2_179, W_1_12, ⟨by decide +kernel, by decide +kernel⟩, by decide +kernel⟩
theorem dJ7_fill_031fb_0 : decode cJ7_fill_031fb 0 = .ok (.iconst 0, 1) := by decide +kernel
theorem dJ7_fill_031fb_1 : decode cJ7_fill_031fb 1 = .ok (.istore_n 2, 1) := by decide +kernel
theorem dJ7_fill_031fb_2 : decode cJ7_fill_031fb 2 = .ok (.aload_n 0, 1) := by decide +kernel
theorem dJ7_fill_031fb_3 : decode cJ7_fill_031fb 3 = .ok (.arraylength, 1) := by decide +kernel
theorem dJ7_fill_031fb_4 : decode cJ7_fill_031fb 4 = .ok (.istore_n 3, 1) := by decide +kernel
theorem dJ7_fill_031fb_5 : decode cJ7_fill_031fb 5 = .ok (.iload_n 2, 1) := by decide +kernel
theorem dJ7_fill_031fb_6 : decode cJ7_fill_031fb 6 = .ok (.iload_n 3, 1) := by decide +kernel
theorem dJ7_fill_031fb_7 : decode cJ7_fill_031fb 7 = .ok (.if_icmp .ge 13, 3) := by decide +kernel
theorem dJ7_fill_031fb_10 : decode cJ7_fill_031fb 10 = .ok (.aload_n 0, 1) := by decide +kernel
theorem dJ7_fill_031fb_11 : decode cJ7_fill_031fb 11 = .ok (.iload_n 2, 1) := by decide +kernel
theorem dJ7_fill_031fb_12 : decode cJ7_fill_031fb 12 = .ok (.iload_n 1, 1) := by decide +kernel
theorem dJ7_fill_031fb_13 : decode cJ7_fill_031fb 13 = .ok (.bastore, 1) := by decide +kernel
theorem dJ7_fill_031fb_14 : decode cJ7_fill_031fb 14 = .ok (.iinc 2 1, 3) := by decide +kernel
theorem dJ7_fill_031fb_17 : decode cJ7_fill_031fb 17 = .ok (.goto (-12), 3) := by decide +kernel
theorem dJ7_fill_031fb_20 : decode cJ7_fill_031fb 20 = .ok (.return_, 1) := by decide +kernel
def L_J7_fill_031fb_5 (b0 fu : Nat)  : Nat → Nat → Int32 → Int32 → Int32 → tM → Option ((Unit) × tM)
  | 0, _, _, _, _, _ => none
  | n + 1, x0, x1, x2, x3, σ => ltb (L_J7_fill_031fb_5 b0 fu  n) (fun rc5 => if (x3) ≤ (x2) then some ((), σ) else ckR b0 (σ) (x0) 1 (fun n8 => ckI (x2) (n8) (ltb ((x2) + Int32.ofInt 1) (fun y10 => rc5 (x0) (x1) (y10) (x3) (sI (σ) (x0) ((x2).toNatClampNeg) (vp_nar .byte (x1)))))))
def m_J7_fill_031fb (b0 fu : Nat) (p0 : Nat) (p1 : Int32) (σ : tM) : Option ((Unit) × tM) := grw σ (ckR b0 (σ) (p0) 1 (fun n3 => ltb ((nI n3 : Int32)) (fun y4 => L_J7_fill_031fb_5 b0 fu  (fu) (p0) (p1) (0) (y4) (σ))))
set_option maxRecDepth 100000 in
set_option maxHeartbeats 1000000 in
theorem l_J7_fill_031fb_5 {p : Program} {l : Launch} {e : Env} {s : State} {m : MethodId} {args : Array Value} {below : List Frame} {meth : Method} {c : Code} {D : va_G} {aC : Nat → ClassId} {b0 fu : Nat} {σ0 τ : tM} {v : Unit}  (C : tCx p l s m args meth c yJ7_fill_031fb.cls cJ7_fill_031fb 4 none D aC b0 σ0) (htab : ∀ x ∈ c.exceptionTable.toList, False) (hin : meth.name = yJ7_fill_031fb.name)  : ∀ (n : Nat) (x0 : Nat) (x1 : Int32) (x2 : Int32) (x3 : Int32) (σ : tM), L_J7_fill_031fb_5 b0 fu  n x0 x1 x2 x3 σ = some (v, τ) → tX p l e s m args below meth c 4 0 0 D aC b0 σ0 (.inl none) τ 5 [(0, .ref (x0)), (1, .int (x1)), (2, .int (x2)), (3, .int (x3))] [] σ := by
  intro n
  induction n with
  | zero => intro x0 x1 x2 x3 σ hm; unfold L_J7_fill_031fb_5 at hm; cases hm
  | succ n ih =>
    intro x0 x1 x2 x3 σ hm
    unfold L_J7_fill_031fb_5 at hm
    obtain ⟨rc5, hrc⟩ : ∃ z, z = L_J7_fill_031fb_5 b0 fu  n := ⟨_, rfl⟩
    replace hm := ltb_e hm hrc
    rw [← hrc] at ih
    have hrc5 := ih
    clear ih hrc
    refine zx_iload_n C dJ7_fill_031fb_5 2 rfl ?_
    refine zx_iload_n C dJ7_fill_031fb_6 3 rfl ?_
    refine zx_icmp_ge C 20 dJ7_fill_031fb_7 (by decide) (fun c5 => ?_) (fun c5 => ?_)
    · replace hm := ip_e hm c5
      obtain ⟨rfl, rfl⟩ := ret_e hm
      exact zx_vret C rfl rfl rfl dJ7_fill_031fb_20
    · replace hm := in_e hm c5
      refine zx_aload_n C dJ7_fill_031fb_10 0 rfl ?_
      refine zx_iload_n C dJ7_fill_031fb_11 2 rfl ?_
      refine zx_iload_n C dJ7_fill_031fb_12 1 rfl ?_
      obtain ⟨n8, k6, i7, hm⟩ := ckR_e hm
      obtain ⟨h9, hm⟩ := ckI_e hm
      refine zx_bast C k6 i7 h9 dJ7_fill_031fb_13 ?_
      obtain ⟨y10, hy10⟩ : ∃ z : Int32, z = (x2) + Int32.ofInt 1 := ⟨_, rfl⟩
      replace hm := ltb_e hm hy10
      refine zx_iinc C [(2, .int (y10)), (0, .ref (x0)), (1, .int (x1)), (3, .int (x3))] dJ7_fill_031fb_14 2 rfl hy10.symm (by decide) rfl ?_
      refine zx_goto C 5 dJ7_fill_031fb_17 (by decide) ?_
      exact zx_lv [1, 2, 0, 3] [(0, .ref (x0)), (1, .int (x1)), (2, .int (y10)), (3, .int (x3))] rfl (hrc5 _ _ _ _ _ hm)
set_option maxRecDepth 100000 in
set_option maxHeartbeats 1000000 in
theorem c_J7_fill_031fb {l : Launch} {D : va_G} {aC : Nat → ClassId} {b0 fu : Nat} {p0 : Nat} {p1 : Int32} {σ τ : tM} {v : Unit} (hm : m_J7_fill_031fb b0 fu p0 p1 σ = some (v, τ)) : tMt l D aC b0 yJ7_fill_031fb (Cond.code yJ7_fill_031fb cJ7_fill_031fb 4 none) 0 0 [.ref (p0), .int (p1)] σ (.inl none) τ := by
  unfold m_J7_fill_031fb at hm
  obtain ⟨hg, hm⟩ := grw_e hm
  refine tMt_of (n := 0) rfl (Nat.le_of_ble_eq_true rfl) hg ?_
  intro p e s m below meth c C htab hin
  refine zx_lv [0, 1] [(0, .ref (p0)), (1, .int (p1))] rfl ?_
  refine zx_iconst (v := 0) C dJ7_fill_031fb_0 (by decide) ?_
  refine zx_istore_n C [(2, .int (0)), (0, .ref (p0)), (1, .int (p1))] dJ7_fill_031fb_1 rfl (by decide) rfl ?_
  refine zx_aload_n C dJ7_fill_031fb_2 1 rfl ?_
  obtain ⟨n3, k1, i2, hm⟩ := ckR_e hm
  refine zx_alen C k1 (by decide) i2 dJ7_fill_031fb_3 ?_
  refine zx_topi (fun y4 hy4 => ?_)
  replace hm := ltb_e hm hy4
  refine zx_istore_n C [(3, .int (y4)), (2, .int (0)), (0, .ref (p0)), (1, .int (p1))] dJ7_fill_031fb_4 rfl (by decide) rfl ?_
  exact zx_lv [2, 3, 1, 0] [(0, .ref (p0)), (1, .int (p1)), (2, .int (0)), (3, .int (y4))] rfl (l_J7_fill_031fb_5 C htab hin  _ _ _ _ _ _ hm)
abbrev cX0_act : ByteArray := prog_2_method_4_code
def yX0_act : MethodName := ⟨"SyncTree$Disk", "act", "()V"⟩
theorem Y_X0_act : tY yX0_act cX0_act 1 none 0 := ⟨W_3_202, W_1_2, ⟨by decide +kernel, by decide +kernel⟩, by decide +kernel⟩
theorem dX0_act_0 : decode cX0_act 0 = .ok (.aload_n 0, 1) := by decide +kernel
theorem dX0_act_1 : decode cX0_act 1 = .ok (.getfield 65, 3) := by decide +kernel
theorem dX0_act_4 : decode cX0_act 4 = .ok (.ifCond .ne 17, 3) := by decide +kernel
theorem dX0_act_7 : decode cX0_act 7 = .ok (.aload_n 0, 1) := by decide +kernel
theorem dX0_act_8 : decode cX0_act 8 = .ok (.invokevirtual 79, 3) := by decide +kernel
theorem dX0_act_11 : decode cX0_act 11 = .ok (.new 72, 3) := by decide +kernel
theorem dX0_act_14 : decode cX0_act 14 = .ok (.dup, 1) := by decide +kernel
theorem dX0_act_15 : decode cX0_act 15 = .ok (.ldc 82, 2) := by decide +kernel
theorem dX0_act_17 : decode cX0_act 17 = .ok (.invokespecial 76, 3) := by decide +kernel
theorem dX0_act_20 : decode cX0_act 20 = .ok (.athrow, 1) := by decide +kernel
theorem dX0_act_21 : decode cX0_act 21 = .ok (.aload_n 0, 1) := by decide +kernel
theorem dX0_act_22 : decode cX0_act 22 = .ok (.getfield 65, 3) := by decide +kernel
theorem dX0_act_25 : decode cX0_act 25 = .ok (.ifCond .le 13, 3) := by decide +kernel
theorem dX0_act_28 : decode cX0_act 28 = .ok (.aload_n 0, 1) := by decide +kernel
theorem dX0_act_29 : decode cX0_act 29 = .ok (.dup, 1) := by decide +kernel
theorem dX0_act_30 : decode cX0_act 30 = .ok (.getfield 65, 3) := by decide +kernel
theorem dX0_act_33 : decode cX0_act 33 = .ok (.iconst 1, 1) := by decide +kernel
theorem dX0_act_34 : decode cX0_act 34 = .ok (.isub, 1) := by decide +kernel
theorem dX0_act_35 : decode cX0_act 35 = .ok (.putfield 65, 3) := by decide +kernel
theorem dX0_act_38 : decode cX0_act 38 = .ok (.aload_n 0, 1) := by decide +kernel
theorem dX0_act_39 : decode cX0_act 39 = .ok (.dup, 1) := by decide +kernel
theorem dX0_act_40 : decode cX0_act 40 = .ok (.getfield 59, 3) := by decide +kernel
theorem dX0_act_43 : decode cX0_act 43 = .ok (.iconst 1, 1) := by decide +kernel
theorem dX0_act_44 : decode cX0_act 44 = .ok (.iadd, 1) := by decide +kernel
theorem dX0_act_45 : decode cX0_act 45 = .ok (.putfield 59, 3) := by decide +kernel
theorem dX0_act_48 : decode cX0_act 48 = .ok (.return_, 1) := by decide +kernel
def J_X0_act_38 (b0 fu : Nat)  (x0 : Nat) (σ : tM) : Option (((Unit) ⊕ Unit) × tM) := ckO b0 (σ) (x0) 0 (some (.inl (()), sI (σ) (x0) 11 ((tI (σ) (x0) 11) + (1))))
def m_X0_act (b0 fu : Nat) (a0 : Nat) (σ : tM) : Option (((Unit) ⊕ Unit) × tM) := grw σ (ckO b0 (σ) (a0) 0 (if (tI (σ) (a0) 13) = (0) then cll (m_X0_losePower b0 fu (a0) (σ)) (fun v7 ρ8 => some (.inr (), sN (ρ8) (b0 + tn (ρ8)) (.inl 12) 6)) else if (tI (σ) (a0) 13) ≤ (0) then J_X0_act_38 b0 fu   (a0) (σ) else J_X0_act_38 b0 fu   (a0) (sI (σ) (a0) 13 ((tI (σ) (a0) 13) - (1)))))
set_option maxRecDepth 100000 in
set_option maxHeartbeats 1000000 in
theorem j_X0_act_38 {p : Program} {l : Launch} {e : Env} {s : State} {m : MethodId} {args : Array Value} {below : List Frame} {meth : Method} {c : Code} {D : va_G} {aC : Nat → ClassId} {b0 fu : Nat} {σ0 τ : tM} {v : (Unit) ⊕ Unit}  (C : tCx p l s m args meth c yX0_act.cls cX0_act 1 none D aC b0 σ0) (htab : ∀ x ∈ c.exceptionTable.toList, False) (hin : meth.name = yX0_act.name)  {x0 : Nat} {σ : tM} (hm : J_X0_act_38 b0 fu  x0 σ = some (v, τ)) : tX p l e s m args below meth c 1 6 90 D aC b0 σ0 (rxV "java/lang/IllegalStateException" v) τ 38 [(0, .ref (x0))] [] σ := by
  unfold J_X0_act_38 at hm
  refine zx_aload_n C dX0_act_38 0 rfl ?_
  refine zx_dup C dX0_act_39 rfl ?_
  obtain ⟨k5, i6, hm⟩ := ckO_e hm
  refine zx_get (j := 11) C tC_0 k5 i6 ⟨by decide, Or.inl W_1_48⟩ dX0_act_40 (.int (tI (σ) (x0) 11)) rfl ?_
  refine zx_iconst (v := 1) C dX0_act_43 (by decide) ?_
  refine zx_iadd C dX0_act_44 ?_
  refine zx_put (j := 11) (ρ := sI (σ) (x0) 11 ((tI (σ) (x0) 11) + (1))) C tC_0 k5 i6 ⟨by decide, Or.inl W_1_48⟩ rfl rfl rfl (sI_ok (fun _ => rfl)) dX0_act_45 ?_
  obtain ⟨rfl, rfl⟩ := ret_e hm
  exact zx_vret C rfl rfl rfl dX0_act_48
set_option maxRecDepth 100000 in
set_option maxHeartbeats 1000000 in
theorem c_X0_act {l : Launch} {D : va_G} {aC : Nat → ClassId} {b0 fu : Nat} {a0 : Nat} {σ τ : tM} {v : (Unit) ⊕ Unit} (hm : m_X0_act b0 fu a0 σ = some (v, τ)) : tMt l D aC b0 yX0_act (Cond.code yX0_act cX0_act 1 none) 6 90 [.ref (a0)] σ (rxV "java/lang/IllegalStateException" v) τ := by
  unfold m_X0_act at hm
  obtain ⟨hg, hm⟩ := grw_e hm
  refine tMt_of (n := 0) rfl (Nat.le_of_ble_eq_true rfl) hg ?_
  intro p e s m below meth c C htab hin
  refine zx_lv [0] [(0, .ref (a0))] rfl ?_
  refine zx_aload_n C dX0_act_0 0 rfl ?_
  obtain ⟨k1, i2, hm⟩ := ckO_e hm
  refine zx_get (j := 13) C tC_0 k1 i2 ⟨by decide, Or.inl W_1_50⟩ dX0_act_1 (.int (tI (σ) (a0) 13)) rfl ?_
  refine zx_if_ne C 21 dX0_act_4 (by decide) (fun c3 => ?_) (fun c3 => ?_)
  · replace hm := in_e hm c3
    refine zx_aload_n C dX0_act_21 0 rfl ?_
    refine zx_get (j := 13) C tC_0 k1 i2 ⟨by decide, Or.inl W_1_50⟩ dX0_act_22 (.int (tI (σ) (a0) 13)) rfl ?_
    refine zx_if_le C 38 dX0_act_25 (by decide) (fun c4 => ?_) (fun c4 => ?_)
    · replace hm := ip_e hm c4
      exact zx_lv [0] [(0, .ref (a0))] rfl (j_X0_act_38 C htab hin    hm)
    · replace hm := in_e hm c4
      refine zx_aload_n C dX0_act_28 0 rfl ?_
      refine zx_dup C dX0_act_29 rfl ?_
      refine zx_get (j := 13) C tC_0 k1 i2 ⟨by decide, Or.inl W_1_50⟩ dX0_act_30 (.int (tI (σ) (a0) 13)) rfl ?_
      refine zx_iconst (v := 1) C dX0_act_33 (by decide) ?_
      refine zx_isub C dX0_act_34 ?_
      refine zx_put (j := 13) (ρ := sI (σ) (a0) 13 ((tI (σ) (a0) 13) - (1))) C tC_0 k1 i2 ⟨by decide, Or.inl W_1_50⟩ rfl rfl rfl (sI_ok (fun _ => rfl)) dX0_act_35 ?_
      exact zx_lv [0] [(0, .ref (a0))] rfl (j_X0_act_38 C htab hin    hm)
  · replace hm := ip_e hm c3
    refine zx_aload_n C dX0_act_7 0 rfl ?_
    obtain ⟨v7, ρ8, h9, hm⟩ := cll_e hm
    refine zx_callV (σ := σ) C [] tC_0 k1 i2 Y_X0_losePower W_3_203 W_3_204 W_3_205 (c_X0_losePower h9) (by decide) (by decide) rfl (Nat.le_of_ble_eq_true rfl) dX0_act_8 rfl ?_
    obtain ⟨rfl, rfl⟩ := ret_e hm
    exact zx_throw C htab (Or.inr ⟨rfl, rfl⟩) dX0_act_11 dX0_act_14 dX0_act_15 dX0_act_17 dX0_act_20 rfl rfl (by decide) (by decide) (Nat.le_of_ble_eq_true rfl)
abbrev cX0_giveBytes : ByteArray := prog_2_method_7_code
def yX0_giveBytes : MethodName := ⟨"SyncTree$Disk", "giveBytes", "([JI)V"⟩
theorem Y_X0_giveBytes : tY yX0_giveBytes cX0_giveBytes 4 none 2 := ⟨W_6_56, W_1_2, ⟨by decide +kernel, by decide +kernel⟩, by decide +kernel⟩
theorem dX0_giveBytes_0 : decode cX0_giveBytes 0 = .ok (.aload_n 0, 1) := by decide +kernel
theorem dX0_giveBytes_1 : decode cX0_giveBytes 1 = .ok (.getfield 56, 3) := by decide +kernel
theorem dX0_giveBytes_4 : decode cX0_giveBytes 4 = .ok (.iconst 1, 1) := by decide +kernel
theorem dX0_giveBytes_5 : decode cX0_giveBytes 5 = .ok (.if_icmp .lt 16, 3) := by decide +kernel
theorem dX0_giveBytes_8 : decode cX0_giveBytes 8 = .ok (.iload_n 2, 1) := by decide +kernel
theorem dX0_giveBytes_9 : decode cX0_giveBytes 9 = .ok (.ifCond .lt 12, 3) := by decide +kernel
theorem dX0_giveBytes_12 : decode cX0_giveBytes 12 = .ok (.iload_n 2, 1) := by decide +kernel
theorem dX0_giveBytes_13 : decode cX0_giveBytes 13 = .ok (.aload_n 1, 1) := by decide +kernel
theorem dX0_giveBytes_14 : decode cX0_giveBytes 14 = .ok (.arraylength, 1) := by decide +kernel
theorem dX0_giveBytes_15 : decode cX0_giveBytes 15 = .ok (.bipush 32, 2) := by decide +kernel
theorem dX0_giveBytes_17 : decode cX0_giveBytes 17 = .ok (.isub, 1) := by decide +kernel
theorem dX0_giveBytes_18 : decode cX0_giveBytes 18 = .ok (.if_icmp .le 4, 3) := by decide +kernel
theorem dX0_giveBytes_21 : decode cX0_giveBytes 21 = .ok (.return_, 1) := by decide +kernel
theorem dX0_giveBytes_22 : decode cX0_giveBytes 22 = .ok (.aload_n 0, 1) := by decide +kernel
theorem dX0_giveBytes_23 : decode cX0_giveBytes 23 = .ok (.getfield 53, 3) := by decide +kernel
theorem dX0_giveBytes_26 : decode cX0_giveBytes 26 = .ok (.aload_n 0, 1) := by decide +kernel
theorem dX0_giveBytes_27 : decode cX0_giveBytes 27 = .ok (.getfield 56, 3) := by decide +kernel
theorem dX0_giveBytes_30 : decode cX0_giveBytes 30 = .ok (.iadd, 1) := by decide +kernel
theorem dX0_giveBytes_31 : decode cX0_giveBytes 31 = .ok (.iconst 1, 1) := by decide +kernel
theorem dX0_giveBytes_32 : decode cX0_giveBytes 32 = .ok (.isub, 1) := by decide +kernel
theorem dX0_giveBytes_33 : decode cX0_giveBytes 33 = .ok (.sipush 256, 3) := by decide +kernel
theorem dX0_giveBytes_36 : decode cX0_giveBytes 36 = .ok (.irem, 1) := by decide +kernel
theorem dX0_giveBytes_37 : decode cX0_giveBytes 37 = .ok (.istore_n 3, 1) := by decide +kernel
theorem dX0_giveBytes_38 : decode cX0_giveBytes 38 = .ok (.aload_n 0, 1) := by decide +kernel
theorem dX0_giveBytes_39 : decode cX0_giveBytes 39 = .ok (.getfield 33, 3) := by decide +kernel
theorem dX0_giveBytes_42 : decode cX0_giveBytes 42 = .ok (.iload_n 3, 1) := by decide +kernel
theorem dX0_giveBytes_43 : decode cX0_giveBytes 43 = .ok (.aaload, 1) := by decide +kernel
theorem dX0_giveBytes_44 : decode cX0_giveBytes 44 = .ok (.ifnonnull 16, 3) := by decide +kernel
theorem dX0_giveBytes_47 : decode cX0_giveBytes 47 = .ok (.aload_n 0, 1) := by decide +kernel
theorem dX0_giveBytes_48 : decode cX0_giveBytes 48 = .ok (.getfield 33, 3) := by decide +kernel
theorem dX0_giveBytes_51 : decode cX0_giveBytes 51 = .ok (.iload_n 3, 1) := by decide +kernel
theorem dX0_giveBytes_52 : decode cX0_giveBytes 52 = .ok (.new 15, 3) := by decide +kernel
theorem dX0_giveBytes_55 : decode cX0_giveBytes 55 = .ok (.dup, 1) := by decide +kernel
theorem dX0_giveBytes_56 : decode cX0_giveBytes 56 = .ok (.invokespecial 90, 3) := by decide +kernel
theorem dX0_giveBytes_59 : decode cX0_giveBytes 59 = .ok (.aastore, 1) := by decide +kernel
theorem dX0_giveBytes_60 : decode cX0_giveBytes 60 = .ok (.aload_n 1, 1) := by decide +kernel
theorem dX0_giveBytes_61 : decode cX0_giveBytes 61 = .ok (.iload_n 2, 1) := by decide +kernel
theorem dX0_giveBytes_62 : decode cX0_giveBytes 62 = .ok (.aload_n 0, 1) := by decide +kernel
theorem dX0_giveBytes_63 : decode cX0_giveBytes 63 = .ok (.getfield 33, 3) := by decide +kernel
theorem dX0_giveBytes_66 : decode cX0_giveBytes 66 = .ok (.iload_n 3, 1) := by decide +kernel
theorem dX0_giveBytes_67 : decode cX0_giveBytes 67 = .ok (.aaload, 1) := by decide +kernel
theorem dX0_giveBytes_68 : decode cX0_giveBytes 68 = .ok (.getfield 91, 3) := by decide +kernel
theorem dX0_giveBytes_71 : decode cX0_giveBytes 71 = .ok (.iconst 0, 1) := by decide +kernel
theorem dX0_giveBytes_72 : decode cX0_giveBytes 72 = .ok (.bipush 32, 2) := by decide +kernel
theorem dX0_giveBytes_74 : decode cX0_giveBytes 74 = .ok (.invokestatic 95, 3) := by decide +kernel
theorem dX0_giveBytes_77 : decode cX0_giveBytes 77 = .ok (.aload_n 0, 1) := by decide +kernel
theorem dX0_giveBytes_78 : decode cX0_giveBytes 78 = .ok (.getfield 36, 3) := by decide +kernel
theorem dX0_giveBytes_81 : decode cX0_giveBytes 81 = .ok (.iload_n 3, 1) := by decide +kernel
theorem dX0_giveBytes_82 : decode cX0_giveBytes 82 = .ok (.iconst 1, 1) := by decide +kernel
theorem dX0_giveBytes_83 : decode cX0_giveBytes 83 = .ok (.bastore, 1) := by decide +kernel
theorem dX0_giveBytes_84 : decode cX0_giveBytes 84 = .ok (.return_, 1) := by decide +kernel
def J_X0_giveBytes_21 (b0 fu : Nat)   (σ : tM) : Option ((Unit) × tM) := some ((), σ)
def J_X0_giveBytes_60 (b0 fu : Nat)  (x0 : Nat) (x1 : Nat) (x2 : Int32) (x3 : Int32) (σ : tM) : Option ((Unit) × tM) := ckO b0 (σ) (x0) 0 (osm (tA (σ) (x0) 6) (fun a20 => ckR b0 (σ) (a20) 4 (fun n24 => ckI (x3) (n24) (omt (tA (σ) (a20) ((x3).toNatClampNeg)) (fun a26 => ckO b0 (σ) (a26) 4 (osm (tA (σ) (a26) 0) (fun a30 => ckR b0 (σ) (x1) 3 (fun n34 => ckR b0 (σ) (a30) 3 (fun n37 => ckC (x2) (0) (32) (n34) (n37) (osm (tA (sLr (σ) (a30) (va_cpy (tL (σ) (x1)) (tL (σ) (a30)) ((x2).toNatClampNeg) (((0 : Int32)).toNatClampNeg) (((32 : Int32)).toNatClampNeg))) (x0) 7) (fun a40 => ckR b0 (sLr (σ) (a30) (va_cpy (tL (σ) (x1)) (tL (σ) (a30)) ((x2).toNatClampNeg) (((0 : Int32)).toNatClampNeg) (((32 : Int32)).toNatClampNeg))) (a40) 2 (fun n44 => ckI (x3) (n44) (some ((), sI (sLr (σ) (a30) (va_cpy (tL (σ) (x1)) (tL (σ) (a30)) ((x2).toNatClampNeg) (((0 : Int32)).toNatClampNeg) (((32 : Int32)).toNatClampNeg))) (a40) ((x3).toNatClampNeg) (vp_nar .boolean ((1 : Int32))))))))))))) (none)))))
def m_X0_giveBytes (b0 fu : Nat) (a0 : Nat) (p0 : Nat) (p1 : Int32) (σ : tM) : Option ((Unit) × tM) := grw σ (ckO b0 (σ) (a0) 0 (if (tI (σ) (a0) 10) < (1) then J_X0_giveBytes_21 b0 fu    (σ) else if (p1) < (0) then J_X0_giveBytes_21 b0 fu    (σ) else ckR b0 (σ) (p0) 3 (fun n7 => if (p1) ≤ ((nI n7) - (32)) then ltb (((((tI (σ) (a0) 9) + (tI (σ) (a0) 10)) - (1)) - (((tI (σ) (a0) 9) + (tI (σ) (a0) 10)) - (1)) / (256) * (256) : Int32)) (fun y9 => osm (tA (σ) (a0) 6) (fun a10 => ckR b0 (σ) (a10) 4 (fun n14 => ckI (y9) (n14) (omt (tA (σ) (a10) ((y9).toNatClampNeg)) (fun a16 => J_X0_giveBytes_60 b0 fu   (a0) (p0) (p1) (y9) (σ)) (osm (tA (σ) (a0) 6) (fun a46 => ltb (sN (σ) (b0 + tn σ) (.inl 4) 2) (fun ρ48 => cll (m_X4_init b0 fu (b0 + tn σ) (ρ48)) (fun v51 ρ52 => ckR b0 (ρ52) (a46) 4 (fun n56 => ckI (y9) (n56) (ckO b0 (ρ52) (b0 + tn σ) 4 (J_X0_giveBytes_60 b0 fu   (a0) (p0) (p1) (y9) (sA (ρ52) (a46) ((y9).toNatClampNeg) (some (b0 + tn σ)))))))))))))) else J_X0_giveBytes_21 b0 fu    (σ))))
set_option maxRecDepth 100000 in
set_option maxHeartbeats 1000000 in
theorem j_X0_giveBytes_21 {p : Program} {l : Launch} {e : Env} {s : State} {m : MethodId} {args : Array Value} {below : List Frame} {meth : Method} {c : Code} {D : va_G} {aC : Nat → ClassId} {b0 fu : Nat} {σ0 τ : tM} {v : Unit}  (C : tCx p l s m args meth c yX0_giveBytes.cls cX0_giveBytes 4 none D aC b0 σ0) (htab : ∀ x ∈ c.exceptionTable.toList, False) (hin : meth.name = yX0_giveBytes.name)   {σ : tM} (hm : J_X0_giveBytes_21 b0 fu   σ = some (v, τ)) : tX p l e s m args below meth c 4 2 40 D aC b0 σ0 (.inl none) τ 21 [] [] σ := by
  unfold J_X0_giveBytes_21 at hm
  obtain ⟨rfl, rfl⟩ := ret_e hm
  exact zx_vret C rfl rfl rfl dX0_giveBytes_21
set_option maxRecDepth 100000 in
set_option maxHeartbeats 1000000 in
theorem j_X0_giveBytes_60 {p : Program} {l : Launch} {e : Env} {s : State} {m : MethodId} {args : Array Value} {below : List Frame} {meth : Method} {c : Code} {D : va_G} {aC : Nat → ClassId} {b0 fu : Nat} {σ0 τ : tM} {v : Unit}  (C : tCx p l s m args meth c yX0_giveBytes.cls cX0_giveBytes 4 none D aC b0 σ0) (htab : ∀ x ∈ c.exceptionTable.toList, False) (hin : meth.name = yX0_giveBytes.name)  {x0 : Nat} {x1 : Nat} {x2 : Int32} {x3 : Int32} {σ : tM} (hm : J_X0_giveBytes_60 b0 fu  x0 x1 x2 x3 σ = some (v, τ)) : tX p l e s m args below meth c 4 2 40 D aC b0 σ0 (.inl none) τ 60 [(0, .ref (x0)), (1, .ref (x1)), (2, .int (x2)), (3, .int (x3))] [] σ := by
  unfold J_X0_giveBytes_60 at hm
  refine zx_aload_n C dX0_giveBytes_60 1 rfl ?_
  refine zx_iload_n C dX0_giveBytes_61 2 rfl ?_
  refine zx_aload_n C dX0_giveBytes_62 0 rfl ?_
  obtain ⟨k18, i19, hm⟩ := ckO_e hm
  obtain ⟨a20, h21, hm⟩ := osm_e hm
  refine zx_get (j := 6) C tC_0 k18 i19 ⟨by decide, Or.inl W_1_42⟩ dX0_giveBytes_63 (.ref a20) (rf_s h21) ?_
  refine zx_iload_n C dX0_giveBytes_66 3 rfl ?_
  obtain ⟨n24, k22, i23, hm⟩ := ckR_e hm
  obtain ⟨h25, hm⟩ := ckI_e hm
  rcases omt_e hm with ⟨a26, h27, hm⟩ | ⟨h27, hm⟩
  · refine zx_aald C k22 i23 h25 dX0_giveBytes_67 (.ref a26) (rf_s h27) ?_
    obtain ⟨k28, i29, hm⟩ := ckO_e hm
    obtain ⟨a30, h31, hm⟩ := osm_e hm
    refine zx_get (j := 0) C tC_4 k28 i29 ⟨by decide, Or.inr ⟨_, W_2_190⟩⟩ dX0_giveBytes_68 (.ref a30) (rf_s h31) ?_
    refine zx_iconst (v := 0) C dX0_giveBytes_71 (by decide) ?_
    refine zx_bipush (v := 32) C dX0_giveBytes_72 (by decide) ?_
    obtain ⟨n34, k32, i33, hm⟩ := ckR_e hm
    obtain ⟨n37, k35, i36, hm⟩ := ckR_e hm
    obtain ⟨h38, hm⟩ := ckC_e hm
    refine zx_copyJ (σ := σ) C W_6_58 W_2_135 W_2_134 W_1_11 k32 i33 k35 i36 h38  (by decide) (by decide) (Nat.le_of_ble_eq_true rfl) dX0_giveBytes_74 ?_
    refine zx_aload_n C dX0_giveBytes_77 0 rfl ?_
    obtain ⟨a40, h41, hm⟩ := osm_e hm
    refine zx_get (j := 7) C tC_0 k18 i19 ⟨by decide, Or.inl W_1_43⟩ dX0_giveBytes_78 (.ref a40) (rf_s h41) ?_
    refine zx_iload_n C dX0_giveBytes_81 3 rfl ?_
    refine zx_iconst (v := 1) C dX0_giveBytes_82 (by decide) ?_
    obtain ⟨n44, k42, i43, hm⟩ := ckR_e hm
    obtain ⟨h45, hm⟩ := ckI_e hm
    refine zx_zast C k42 i43 h45 dX0_giveBytes_83 ?_
    obtain ⟨rfl, rfl⟩ := ret_e hm
    exact zx_vret C rfl rfl rfl dX0_giveBytes_84
  · refine zx_aald C k22 i23 h25 dX0_giveBytes_67 .null (rf_n h27) ?_
    cases hm
set_option maxRecDepth 100000 in
set_option maxHeartbeats 1000000 in
theorem c_X0_giveBytes {l : Launch} {D : va_G} {aC : Nat → ClassId} {b0 fu : Nat} {a0 : Nat} {p0 : Nat} {p1 : Int32} {σ τ : tM} {v : Unit} (hm : m_X0_giveBytes b0 fu a0 p0 p1 σ = some (v, τ)) : tMt l D aC b0 yX0_giveBytes (Cond.code yX0_giveBytes cX0_giveBytes 4 none) 2 40 [.ref (a0), .ref (p0), .int (p1)] σ (.inl none) τ := by
  unfold m_X0_giveBytes at hm
  obtain ⟨hg, hm⟩ := grw_e hm
  refine tMt_of (n := 0) rfl (Nat.le_of_ble_eq_true rfl) hg ?_
  intro p e s m below meth c C htab hin
  refine zx_lv [0, 1, 2] [(0, .ref (a0)), (1, .ref (p0)), (2, .int (p1))] rfl ?_
  refine zx_aload_n C dX0_giveBytes_0 0 rfl ?_
  obtain ⟨k1, i2, hm⟩ := ckO_e hm
  refine zx_get (j := 10) C tC_0 k1 i2 ⟨by decide, Or.inl W_1_46⟩ dX0_giveBytes_1 (.int (tI (σ) (a0) 10)) rfl ?_
  refine zx_iconst (v := 1) C dX0_giveBytes_4 (by decide) ?_
  refine zx_icmp_lt C 21 dX0_giveBytes_5 (by decide) (fun c3 => ?_) (fun c3 => ?_)
  · replace hm := ip_e hm c3
    exact zx_lv [] [] rfl (j_X0_giveBytes_21 C htab hin    hm)
  · replace hm := in_e hm c3
    refine zx_iload_n C dX0_giveBytes_8 2 rfl ?_
    refine zx_if_lt C 21 dX0_giveBytes_9 (by decide) (fun c4 => ?_) (fun c4 => ?_)
    · replace hm := ip_e hm c4
      exact zx_lv [] [] rfl (j_X0_giveBytes_21 C htab hin    hm)
    · replace hm := in_e hm c4
      refine zx_iload_n C dX0_giveBytes_12 2 rfl ?_
      refine zx_aload_n C dX0_giveBytes_13 1 rfl ?_
      obtain ⟨n7, k5, i6, hm⟩ := ckR_e hm
      refine zx_alen C k5 (by decide) i6 dX0_giveBytes_14 ?_
      refine zx_bipush (v := 32) C dX0_giveBytes_15 (by decide) ?_
      refine zx_isub C dX0_giveBytes_17 ?_
      refine zx_icmp_le C 22 dX0_giveBytes_18 (by decide) (fun c8 => ?_) (fun c8 => ?_)
      · replace hm := ip_e hm c8
        refine zx_aload_n C dX0_giveBytes_22 0 rfl ?_
        refine zx_get (j := 9) C tC_0 k1 i2 ⟨by decide, Or.inl W_1_45⟩ dX0_giveBytes_23 (.int (tI (σ) (a0) 9)) rfl ?_
        refine zx_aload_n C dX0_giveBytes_26 0 rfl ?_
        refine zx_get (j := 10) C tC_0 k1 i2 ⟨by decide, Or.inl W_1_46⟩ dX0_giveBytes_27 (.int (tI (σ) (a0) 10)) rfl ?_
        refine zx_iadd C dX0_giveBytes_30 ?_
        refine zx_iconst (v := 1) C dX0_giveBytes_31 (by decide) ?_
        refine zx_isub C dX0_giveBytes_32 ?_
        refine zx_sipush (v := 256) C dX0_giveBytes_33 (by decide) ?_
        refine zx_irem C dX0_giveBytes_36 (by decide) ?_
        refine zx_topi (fun y9 hy9 => ?_)
        replace hm := ltb_e hm hy9
        refine zx_istore_n C [(3, .int (y9)), (0, .ref (a0)), (1, .ref (p0)), (2, .int (p1))] dX0_giveBytes_37 rfl (by decide) rfl ?_
        refine zx_aload_n C dX0_giveBytes_38 1 rfl ?_
        obtain ⟨a10, h11, hm⟩ := osm_e hm
        refine zx_get (j := 6) C tC_0 k1 i2 ⟨by decide, Or.inl W_1_42⟩ dX0_giveBytes_39 (.ref a10) (rf_s h11) ?_
        refine zx_iload_n C dX0_giveBytes_42 0 rfl ?_
        obtain ⟨n14, k12, i13, hm⟩ := ckR_e hm
        obtain ⟨h15, hm⟩ := ckI_e hm
        rcases omt_e hm with ⟨a16, h17, hm⟩ | ⟨h17, hm⟩
        · refine zx_aald C k12 i13 h15 dX0_giveBytes_43 (.ref a16) (rf_s h17) ?_
          refine zx_ifnonnull C 60 dX0_giveBytes_44 (by decide) ?_
          exact zx_lv [1, 2, 3, 0] [(0, .ref (a0)), (1, .ref (p0)), (2, .int (p1)), (3, .int (y9))] rfl (j_X0_giveBytes_60 C htab hin    hm)
        · refine zx_aald C k12 i13 h15 dX0_giveBytes_43 .null (rf_n h17) ?_
          refine zx_ifnonnullN C dX0_giveBytes_44 ?_
          refine zx_aload_n C dX0_giveBytes_47 1 rfl ?_
          obtain ⟨a46, h47, hm⟩ := osm_e hm
          refine zx_get (j := 6) C tC_0 k1 i2 ⟨by decide, Or.inl W_1_42⟩ dX0_giveBytes_48 (.ref a46) (rf_s h47) ?_
          refine zx_iload_n C dX0_giveBytes_51 0 rfl ?_
          refine zx_new C tC_4 W_1_34 W_2_184 W_1_13 dX0_giveBytes_52 ?_
          refine zx_mem (fun ρ48 hρ48 => ?_)
          replace hm := ltb_e hm hρ48
          have k49 : tk ρ48 (b0 + tn σ) = .inl 4 := by rw [hρ48]; exact sN_k _ _ _ _
          have i50 : tIn b0 ρ48 (b0 + tn σ) := by rw [hρ48]; exact sN_i _ _ _ _
          refine zx_dup C dX0_giveBytes_55 rfl ?_
          obtain ⟨v51, ρ52, h53, hm⟩ := cll_e hm
          refine zx_callIN (σ := ρ48) C [] Y_X4_init W_6_57 W_2_186 rfl (c_X4_init h53) (by decide) (by decide) rfl (Nat.le_of_ble_eq_true rfl) dX0_giveBytes_56 rfl ?_
          obtain ⟨n56, k54, i55, hm⟩ := ckR_e hm
          obtain ⟨h57, hm⟩ := ckI_e hm
          obtain ⟨k58, i59, hm⟩ := ckO_e hm
          refine zx_ast C k54 i55 k58 i59 h57 dX0_giveBytes_59 ?_
          exact zx_lv [1, 2, 3, 0] [(0, .ref (a0)), (1, .ref (p0)), (2, .int (p1)), (3, .int (y9))] rfl (j_X0_giveBytes_60 C htab hin    hm)
      · replace hm := in_e hm c8
        exact zx_lv [] [] rfl (j_X0_giveBytes_21 C htab hin    hm)
abbrev cX0_keepOldest : ByteArray := prog_2_method_9_code
def yX0_keepOldest : MethodName := ⟨"SyncTree$Disk", "keepOldest", "()V"⟩
theorem Y_X0_keepOldest : tY yX0_keepOldest cX0_keepOldest 1 none 0 := ⟨W_3_211, W_1_2, ⟨by decide +kernel, by decide +kernel⟩, by decide +kernel⟩
theorem dX0_keepOldest_0 : decode cX0_keepOldest 0 = .ok (.aload_n 0, 1) := by decide +kernel
theorem dX0_keepOldest_1 : decode cX0_keepOldest 1 = .ok (.aload_n 0, 1) := by decide +kernel
theorem dX0_keepOldest_2 : decode cX0_keepOldest 2 = .ok (.getfield 53, 3) := by decide +kernel
theorem dX0_keepOldest_5 : decode cX0_keepOldest 5 = .ok (.invokevirtual 101, 3) := by decide +kernel
theorem dX0_keepOldest_8 : decode cX0_keepOldest 8 = .ok (.aload_n 0, 1) := by decide +kernel
theorem dX0_keepOldest_9 : decode cX0_keepOldest 9 = .ok (.getfield 21, 3) := by decide +kernel
theorem dX0_keepOldest_12 : decode cX0_keepOldest 12 = .ok (.aload_n 0, 1) := by decide +kernel
theorem dX0_keepOldest_13 : decode cX0_keepOldest 13 = .ok (.getfield 27, 3) := by decide +kernel
theorem dX0_keepOldest_16 : decode cX0_keepOldest 16 = .ok (.aload_n 0, 1) := by decide +kernel
theorem dX0_keepOldest_17 : decode cX0_keepOldest 17 = .ok (.getfield 53, 3) := by decide +kernel
theorem dX0_keepOldest_20 : decode cX0_keepOldest 20 = .ok (.iaload, 1) := by decide +kernel
theorem dX0_keepOldest_21 : decode cX0_keepOldest 21 = .ok (.dup2, 1) := by decide +kernel
theorem dX0_keepOldest_22 : decode cX0_keepOldest 22 = .ok (.iaload, 1) := by decide +kernel
theorem dX0_keepOldest_23 : decode cX0_keepOldest 23 = .ok (.iconst 1, 1) := by decide +kernel
theorem dX0_keepOldest_24 : decode cX0_keepOldest 24 = .ok (.isub, 1) := by decide +kernel
theorem dX0_keepOldest_25 : decode cX0_keepOldest 25 = .ok (.iastore, 1) := by decide +kernel
theorem dX0_keepOldest_26 : decode cX0_keepOldest 26 = .ok (.aload_n 0, 1) := by decide +kernel
theorem dX0_keepOldest_27 : decode cX0_keepOldest 27 = .ok (.aload_n 0, 1) := by decide +kernel
theorem dX0_keepOldest_28 : decode cX0_keepOldest 28 = .ok (.getfield 53, 3) := by decide +kernel
theorem dX0_keepOldest_31 : decode cX0_keepOldest 31 = .ok (.iconst 1, 1) := by decide +kernel
theorem dX0_keepOldest_32 : decode cX0_keepOldest 32 = .ok (.iadd, 1) := by decide +kernel
theorem dX0_keepOldest_33 : decode cX0_keepOldest 33 = .ok (.sipush 256, 3) := by decide +kernel
theorem dX0_keepOldest_36 : decode cX0_keepOldest 36 = .ok (.irem, 1) := by decide +kernel
theorem dX0_keepOldest_37 : decode cX0_keepOldest 37 = .ok (.putfield 53, 3) := by decide +kernel
theorem dX0_keepOldest_40 : decode cX0_keepOldest 40 = .ok (.aload_n 0, 1) := by decide +kernel
theorem dX0_keepOldest_41 : decode cX0_keepOldest 41 = .ok (.dup, 1) := by decide +kernel
theorem dX0_keepOldest_42 : decode cX0_keepOldest 42 = .ok (.getfield 56, 3) := by decide +kernel
theorem dX0_keepOldest_45 : decode cX0_keepOldest 45 = .ok (.iconst 1, 1) := by decide +kernel
theorem dX0_keepOldest_46 : decode cX0_keepOldest 46 = .ok (.isub, 1) := by decide +kernel
theorem dX0_keepOldest_47 : decode cX0_keepOldest 47 = .ok (.putfield 56, 3) := by decide +kernel
theorem dX0_keepOldest_50 : decode cX0_keepOldest 50 = .ok (.return_, 1) := by decide +kernel
def m_X0_keepOldest (b0 fu : Nat) (a0 : Nat) (σ : tM) : Option ((Unit) × tM) := grw σ (ckO b0 (σ) (a0) 0 (cll (m_X0_keep b0 fu (a0) (tI (σ) (a0) 9) (σ)) (fun v3 ρ4 => ckO b0 (ρ4) (a0) 0 (osm (tA (ρ4) (a0) 2) (fun a8 => osm (tA (ρ4) (a0) 4) (fun a10 => ckR b0 (ρ4) (a10) 0 (fun n14 => ckI (tI (ρ4) (a0) 9) (n14) (ckR b0 (ρ4) (a8) 0 (fun n18 => ckI (tI (ρ4) (a10) ((tI (ρ4) (a0) 9).toNatClampNeg)) (n18) (ckI (tI (ρ4) (a10) ((tI (ρ4) (a0) 9).toNatClampNeg)) (n18) (ltb (sI (sI (ρ4) (a8) ((tI (ρ4) (a10) ((tI (ρ4) (a0) 9).toNatClampNeg)).toNatClampNeg) ((tI (ρ4) (a8) ((tI (ρ4) (a10) ((tI (ρ4) (a0) 9).toNatClampNeg)).toNatClampNeg)) - (1))) (a0) 9 (((tI (sI (ρ4) (a8) ((tI (ρ4) (a10) ((tI (ρ4) (a0) 9).toNatClampNeg)).toNatClampNeg) ((tI (ρ4) (a8) ((tI (ρ4) (a10) ((tI (ρ4) (a0) 9).toNatClampNeg)).toNatClampNeg)) - (1))) (a0) 9) + (1)) - ((tI (sI (ρ4) (a8) ((tI (ρ4) (a10) ((tI (ρ4) (a0) 9).toNatClampNeg)).toNatClampNeg) ((tI (ρ4) (a8) ((tI (ρ4) (a10) ((tI (ρ4) (a0) 9).toNatClampNeg)).toNatClampNeg)) - (1))) (a0) 9) + (1)) / (256) * (256))) (fun ρ21 => some ((), sI (ρ21) (a0) 10 ((tI (ρ21) (a0) 10) - (1)))))))))))))))
set_option maxRecDepth 100000 in
set_option maxHeartbeats 1000000 in
theorem c_X0_keepOldest {l : Launch} {D : va_G} {aC : Nat → ClassId} {b0 fu : Nat} {a0 : Nat} {σ τ : tM} {v : Unit} (hm : m_X0_keepOldest b0 fu a0 σ = some (v, τ)) : tMt l D aC b0 yX0_keepOldest (Cond.code yX0_keepOldest cX0_keepOldest 1 none) 1 23 [.ref (a0)] σ (.inl none) τ := by
  unfold m_X0_keepOldest at hm
  obtain ⟨hg, hm⟩ := grw_e hm
  refine tMt_of (n := 0) rfl (Nat.le_of_ble_eq_true rfl) hg ?_
  intro p e s m below meth c C htab hin
  refine zx_lv [0] [(0, .ref (a0))] rfl ?_
  refine zx_aload_n C dX0_keepOldest_0 0 rfl ?_
  refine zx_aload_n C dX0_keepOldest_1 0 rfl ?_
  obtain ⟨k1, i2, hm⟩ := ckO_e hm
  refine zx_get (j := 9) C tC_0 k1 i2 ⟨by decide, Or.inl W_1_45⟩ dX0_keepOldest_2 (.int (tI (σ) (a0) 9)) rfl ?_
  obtain ⟨v3, ρ4, h5, hm⟩ := cll_e hm
  refine zx_callV (σ := σ) C [.int (tI (σ) (a0) 9)] tC_0 k1 i2 Y_X0_keep W_3_212 W_3_214 Wp_14 (c_X0_keep h5) (by decide) (by decide) rfl (Nat.le_of_ble_eq_true rfl) dX0_keepOldest_5 rfl ?_
  refine zx_aload_n C dX0_keepOldest_8 0 rfl ?_
  obtain ⟨k6, i7, hm⟩ := ckO_e hm
  obtain ⟨a8, h9, hm⟩ := osm_e hm
  refine zx_get (j := 2) C tC_0 k6 i7 ⟨by decide, Or.inl W_1_38⟩ dX0_keepOldest_9 (.ref a8) (rf_s h9) ?_
  refine zx_aload_n C dX0_keepOldest_12 0 rfl ?_
  obtain ⟨a10, h11, hm⟩ := osm_e hm
  refine zx_get (j := 4) C tC_0 k6 i7 ⟨by decide, Or.inl W_1_40⟩ dX0_keepOldest_13 (.ref a10) (rf_s h11) ?_
  refine zx_aload_n C dX0_keepOldest_16 0 rfl ?_
  refine zx_get (j := 9) C tC_0 k6 i7 ⟨by decide, Or.inl W_1_45⟩ dX0_keepOldest_17 (.int (tI (ρ4) (a0) 9)) rfl ?_
  obtain ⟨n14, k12, i13, hm⟩ := ckR_e hm
  obtain ⟨h15, hm⟩ := ckI_e hm
  refine zx_iald C k12 i13 h15 dX0_keepOldest_20 ?_
  refine zx_dup2_11 C dX0_keepOldest_21 rfl rfl ?_
  obtain ⟨n18, k16, i17, hm⟩ := ckR_e hm
  obtain ⟨h19, hm⟩ := ckI_e hm
  refine zx_iald C k16 i17 h19 dX0_keepOldest_22 ?_
  refine zx_iconst (v := 1) C dX0_keepOldest_23 (by decide) ?_
  refine zx_isub C dX0_keepOldest_24 ?_
  obtain ⟨h20, hm⟩ := ckI_e hm
  refine zx_iast C k16 i17 h20 dX0_keepOldest_25 ?_
  refine zx_aload_n C dX0_keepOldest_26 0 rfl ?_
  refine zx_aload_n C dX0_keepOldest_27 0 rfl ?_
  refine zx_get (j := 9) C tC_0 k6 i7 ⟨by decide, Or.inl W_1_45⟩ dX0_keepOldest_28 (.int (tI (sI (ρ4) (a8) ((tI (ρ4) (a10) ((tI (ρ4) (a0) 9).toNatClampNeg)).toNatClampNeg) ((tI (ρ4) (a8) ((tI (ρ4) (a10) ((tI (ρ4) (a0) 9).toNatClampNeg)).toNatClampNeg)) - (1))) (a0) 9)) rfl ?_
  refine zx_iconst (v := 1) C dX0_keepOldest_31 (by decide) ?_
  refine zx_iadd C dX0_keepOldest_32 ?_
  refine zx_sipush (v := 256) C dX0_keepOldest_33 (by decide) ?_
  refine zx_irem C dX0_keepOldest_36 (by decide) ?_
  refine zx_put (j := 9) (ρ := sI (sI (ρ4) (a8) ((tI (ρ4) (a10) ((tI (ρ4) (a0) 9).toNatClampNeg)).toNatClampNeg) ((tI (ρ4) (a8) ((tI (ρ4) (a10) ((tI (ρ4) (a0) 9).toNatClampNeg)).toNatClampNeg)) - (1))) (a0) 9 (((tI (sI (ρ4) (a8) ((tI (ρ4) (a10) ((tI (ρ4) (a0) 9).toNatClampNeg)).toNatClampNeg) ((tI (ρ4) (a8) ((tI (ρ4) (a10) ((tI (ρ4) (a0) 9).toNatClampNeg)).toNatClampNeg)) - (1))) (a0) 9) + (1)) - ((tI (sI (ρ4) (a8) ((tI (ρ4) (a10) ((tI (ρ4) (a0) 9).toNatClampNeg)).toNatClampNeg) ((tI (ρ4) (a8) ((tI (ρ4) (a10) ((tI (ρ4) (a0) 9).toNatClampNeg)).toNatClampNeg)) - (1))) (a0) 9) + (1)) / (256) * (256))) C tC_0 k6 i7 ⟨by decide, Or.inl W_1_45⟩ rfl rfl rfl (sI_ok (fun _ => rfl)) dX0_keepOldest_37 ?_
  refine zx_mem (fun ρ21 hρ21 => ?_)
  replace hm := ltb_e hm hρ21
  have k22 : tk ρ21 (a0) = .inl 0 := by rw [hρ21]; exact k6
  have i23 : tIn b0 ρ21 (a0) := by rw [hρ21]; exact i7
  have k24 : tk ρ21 (a10) = .inr (0, n14) := by rw [hρ21]; exact k12
  have i25 : tIn b0 ρ21 (a10) := by rw [hρ21]; exact i13
  have k26 : tk ρ21 (a8) = .inr (0, n18) := by rw [hρ21]; exact k16
  have i27 : tIn b0 ρ21 (a8) := by rw [hρ21]; exact i17
  refine zx_aload_n C dX0_keepOldest_40 0 rfl ?_
  refine zx_dup C dX0_keepOldest_41 rfl ?_
  refine zx_get (j := 10) C tC_0 k22 i23 ⟨by decide, Or.inl W_1_46⟩ dX0_keepOldest_42 (.int (tI (ρ21) (a0) 10)) rfl ?_
  refine zx_iconst (v := 1) C dX0_keepOldest_45 (by decide) ?_
  refine zx_isub C dX0_keepOldest_46 ?_
  refine zx_put (j := 10) (ρ := sI (ρ21) (a0) 10 ((tI (ρ21) (a0) 10) - (1))) C tC_0 k22 i23 ⟨by decide, Or.inl W_1_46⟩ rfl rfl rfl (sI_ok (fun _ => rfl)) dX0_keepOldest_47 ?_
  obtain ⟨rfl, rfl⟩ := ret_e hm
  exact zx_vret C rfl rfl rfl dX0_keepOldest_50
abbrev cX1_forget : ByteArray := prog_3_method_2_code
def yX1_forget : MethodName := ⟨"SyncTree$Journal", "forget", "()V"⟩
theorem Y_X1_forget : tY yX1_forget cX1_forget 2 none 0 := ⟨W_2_88, W_1_5, ⟨by decide +kernel, by decide +kernel⟩, by decide +kernel⟩
theorem dX1_forget_0 : decode cX1_forget 0 = .ok (.aload_n 0, 1) := by decide +kernel
theorem dX1_forget_1 : decode cX1_forget 1 = .ok (.invokevirtual 33, 3) := by decide +kernel
theorem dX1_forget_4 : decode cX1_forget 4 = .ok (.iconst 0, 1) := by decide +kernel
theorem dX1_forget_5 : decode cX1_forget 5 = .ok (.istore_n 1, 1) := by decide +kernel
theorem dX1_forget_6 : decode cX1_forget 6 = .ok (.iload_n 1, 1) := by decide +kernel
theorem dX1_forget_7 : decode cX1_forget 7 = .ok (.aload_n 0, 1) := by decide +kernel
theorem dX1_forget_8 : decode cX1_forget 8 = .ok (.getfield 25, 3) := by decide +kernel
theorem dX1_forget_11 : decode cX1_forget 11 = .ok (.getfield 36, 3) := by decide +kernel
theorem dX1_forget_14 : decode cX1_forget 14 = .ok (.if_icmp .ge 15, 3) := by decide +kernel
theorem dX1_forget_17 : decode cX1_forget 17 = .ok (.aload_n 0, 1) := by decide +kernel
theorem dX1_forget_18 : decode cX1_forget 18 = .ok (.iload_n 1, 1) := by decide +kernel
theorem dX1_forget_19 : decode cX1_forget 19 = .ok (.aconst_null, 1) := by decide +kernel
theorem dX1_forget_20 : decode cX1_forget 20 = .ok (.invokevirtual 42, 3) := by decide +kernel
theorem dX1_forget_23 : decode cX1_forget 23 = .ok (.iinc 1 1, 3) := by decide +kernel
theorem dX1_forget_26 : decode cX1_forget 26 = .ok (.goto (-20), 3) := by decide +kernel
theorem dX1_forget_29 : decode cX1_forget 29 = .ok (.return_, 1) := by decide +kernel
def L_X1_forget_6 (b0 fu : Nat)  : Nat → Nat → Int32 → tM → Option ((Unit) × tM)
  | 0, _, _, _ => none
  | n + 1, x0, x1, σ => ltb (L_X1_forget_6 b0 fu  n) (fun rc6 => ckO b0 (σ) (x0) 1 (osm (tA (σ) (x0) 1) (fun a8 => ckO b0 (σ) (a8) 5 (if (tI (σ) (a8) 7) ≤ (x1) then some ((), σ) else cll (m_X1_setBase b0 fu (x0) (x1) (none) (σ)) (fun v13 ρ14 => ltb ((x1) + Int32.ofInt 1) (fun y16 => rc6 (x0) (y16) (ρ14)))))))
def m_X1_forget (b0 fu : Nat) (a0 : Nat) (σ : tM) : Option ((Unit) × tM) := grw σ (ckO b0 (σ) (a0) 1 (cll (m_X1_dropAll b0 fu (a0) (σ)) (fun v3 ρ4 => L_X1_forget_6 b0 fu  (fu) (a0) (0) (ρ4))))
set_option maxRecDepth 100000 in
set_option maxHeartbeats 1000000 in
theorem l_X1_forget_6 {p : Program} {l : Launch} {e : Env} {s : State} {m : MethodId} {args : Array Value} {below : List Frame} {meth : Method} {c : Code} {D : va_G} {aC : Nat → ClassId} {b0 fu : Nat} {σ0 τ : tM} {v : Unit}  (C : tCx p l s m args meth c yX1_forget.cls cX1_forget 2 none D aC b0 σ0) (htab : ∀ x ∈ c.exceptionTable.toList, False) (hin : meth.name = yX1_forget.name)  : ∀ (n : Nat) (x0 : Nat) (x1 : Int32) (σ : tM), L_X1_forget_6 b0 fu  n x0 x1 σ = some (v, τ) → tX p l e s m args below meth c 2 2 43 D aC b0 σ0 (.inl none) τ 6 [(0, .ref (x0)), (1, .int (x1))] [] σ := by
  intro n
  induction n with
  | zero => intro x0 x1 σ hm; unfold L_X1_forget_6 at hm; cases hm
  | succ n ih =>
    intro x0 x1 σ hm
    unfold L_X1_forget_6 at hm
    obtain ⟨rc6, hrc⟩ : ∃ z, z = L_X1_forget_6 b0 fu  n := ⟨_, rfl⟩
    replace hm := ltb_e hm hrc
    rw [← hrc] at ih
    have hrc6 := ih
    clear ih hrc
    refine zx_iload_n C dX1_forget_6 1 rfl ?_
    refine zx_aload_n C dX1_forget_7 0 rfl ?_
    obtain ⟨k6, i7, hm⟩ := ckO_e hm
    obtain ⟨a8, h9, hm⟩ := osm_e hm
    refine zx_get (j := 1) C tC_1 k6 i7 ⟨by decide, Or.inl W_1_181⟩ dX1_forget_8 (.ref a8) (rf_s h9) ?_
    obtain ⟨k10, i11, hm⟩ := ckO_e hm
    refine zx_get (j := 7) C tC_5 k10 i11 ⟨by decide, Or.inr ⟨_, W_1_103⟩⟩ dX1_forget_11 (.int (tI (σ) (a8) 7)) rfl ?_
    refine zx_icmp_ge C 29 dX1_forget_14 (by decide) (fun c12 => ?_) (fun c12 => ?_)
    · replace hm := ip_e hm c12
      obtain ⟨rfl, rfl⟩ := ret_e hm
      exact zx_vret C rfl rfl rfl dX1_forget_29
    · replace hm := in_e hm c12
      refine zx_aload_n C dX1_forget_17 0 rfl ?_
      refine zx_iload_n C dX1_forget_18 1 rfl ?_
      refine zx_null C dX1_forget_19 ?_
      obtain ⟨v13, ρ14, h15, hm⟩ := cll_e hm
      refine zx_callV (σ := σ) C [.int (x1), va_rf (none)] tC_1 k6 i7 Y_X1_setBase W_2_97 W_2_99 Wp_3 (c_X1_setBase h15) (by decide) (by decide) rfl (Nat.le_of_ble_eq_true rfl) dX1_forget_20 rfl ?_
      obtain ⟨y16, hy16⟩ : ∃ z : Int32, z = (x1) + Int32.ofInt 1 := ⟨_, rfl⟩
      replace hm := ltb_e hm hy16
      refine zx_iinc C [(1, .int (y16)), (0, .ref (x0))] dX1_forget_23 1 rfl hy16.symm (by decide) rfl ?_
      refine zx_goto C 6 dX1_forget_26 (by decide) ?_
      exact zx_lv [1, 0] [(0, .ref (x0)), (1, .int (y16))] rfl (hrc6 _ _ _ hm)
set_option maxRecDepth 100000 in
set_option maxHeartbeats 1000000 in
theorem c_X1_forget {l : Launch} {D : va_G} {aC : Nat → ClassId} {b0 fu : Nat} {a0 : Nat} {σ τ : tM} {v : Unit} (hm : m_X1_forget b0 fu a0 σ = some (v, τ)) : tMt l D aC b0 yX1_forget (Cond.code yX1_forget cX1_forget 2 none) 2 43 [.ref (a0)] σ (.inl none) τ := by
  unfold m_X1_forget at hm
  obtain ⟨hg, hm⟩ := grw_e hm
  refine tMt_of (n := 0) rfl (Nat.le_of_ble_eq_true rfl) hg ?_
  intro p e s m below meth c C htab hin
  refine zx_lv [0] [(0, .ref (a0))] rfl ?_
  refine zx_aload_n C dX1_forget_0 0 rfl ?_
  obtain ⟨k1, i2, hm⟩ := ckO_e hm
  obtain ⟨v3, ρ4, h5, hm⟩ := cll_e hm
  refine zx_callV (σ := σ) C [] tC_1 k1 i2 Y_X1_dropAll W_2_89 W_2_91 Wp_1 (c_X1_dropAll h5) (by decide) (by decide) rfl (Nat.le_of_ble_eq_true rfl) dX1_forget_1 rfl ?_
  refine zx_iconst (v := 0) C dX1_forget_4 (by decide) ?_
  refine zx_istore_n C [(1, .int (0)), (0, .ref (a0))] dX1_forget_5 rfl (by decide) rfl ?_
  exact zx_lv [1, 0] [(0, .ref (a0)), (1, .int (0))] rfl (l_X1_forget_6 C htab hin  _ _ _ _ hm)
abbrev cX1_takeRow : ByteArray := prog_3_method_5_code
def yX1_takeRow : MethodName := ⟨"SyncTree$Journal", "takeRow", "()LSyncTree$Row;"⟩
theorem Y_X1_takeRow : tY yX1_takeRow cX1_takeRow 2 (some (.object "SyncTree$Row")) 0 := ⟨W_2_183, W_1_5, ⟨by decide +kernel, by decide +kernel⟩, by decide +kernel⟩
theorem dX1_takeRow_0 : decode cX1_takeRow 0 = .ok (.aload_n 0, 1) := by decide +kernel
theorem dX1_takeRow_1 : decode cX1_takeRow 1 = .ok (.getfield 95, 3) := by decide +kernel
theorem dX1_takeRow_4 : decode cX1_takeRow 4 = .ok (.astore_n 1, 1) := by decide +kernel
theorem dX1_takeRow_5 : decode cX1_takeRow 5 = .ok (.aload_n 1, 1) := by decide +kernel
theorem dX1_takeRow_6 : decode cX1_takeRow 6 = .ok (.ifnonnull 11, 3) := by decide +kernel
theorem dX1_takeRow_9 : decode cX1_takeRow 9 = .ok (.new 9, 3) := by decide +kernel
theorem dX1_takeRow_12 : decode cX1_takeRow 12 = .ok (.dup, 1) := by decide +kernel
theorem dX1_takeRow_13 : decode cX1_takeRow 13 = .ok (.invokespecial 99, 3) := by decide +kernel
theorem dX1_takeRow_16 : decode cX1_takeRow 16 = .ok (.areturn, 1) := by decide +kernel
theorem dX1_takeRow_17 : decode cX1_takeRow 17 = .ok (.aload_n 0, 1) := by decide +kernel
theorem dX1_takeRow_18 : decode cX1_takeRow 18 = .ok (.aload_n 1, 1) := by decide +kernel
theorem dX1_takeRow_19 : decode cX1_takeRow 19 = .ok (.getfield 100, 3) := by decide +kernel
theorem dX1_takeRow_22 : decode cX1_takeRow 22 = .ok (.putfield 95, 3) := by decide +kernel
theorem dX1_takeRow_25 : decode cX1_takeRow 25 = .ok (.aload_n 1, 1) := by decide +kernel
theorem dX1_takeRow_26 : decode cX1_takeRow 26 = .ok (.aconst_null, 1) := by decide +kernel
theorem dX1_takeRow_27 : decode cX1_takeRow 27 = .ok (.putfield 100, 3) := by decide +kernel
theorem dX1_takeRow_30 : decode cX1_takeRow 30 = .ok (.aload_n 1, 1) := by decide +kernel
theorem dX1_takeRow_31 : decode cX1_takeRow 31 = .ok (.areturn, 1) := by decide +kernel
def m_X1_takeRow (b0 fu : Nat) (a0 : Nat) (σ : tM) : Option ((Option Nat) × tM) := grw σ (ckO b0 (σ) (a0) 1 (omt (tA (σ) (a0) 7) (fun a3 => ckO b0 (σ) (a3) 4 (omt (tA (σ) (a3) 1) (fun a7 => some (some (a3), sA (sA (σ) (a0) 7 (some (a7))) (a3) 1 (none))) (some (some (a3), sA (sA (σ) (a0) 7 (none)) (a3) 1 (none))))) (ltb (sN (σ) (b0 + tn σ) (.inl 4) 2) (fun ρ9 => cll (m_X4_init b0 fu (b0 + tn σ) (ρ9)) (fun v12 ρ13 => some (some (b0 + tn σ), ρ13))))))
set_option maxRecDepth 100000 in
set_option maxHeartbeats 1000000 in
theorem c_X1_takeRow {l : Launch} {D : va_G} {aC : Nat → ClassId} {b0 fu : Nat} {a0 : Nat} {σ τ : tM} {v : Option Nat} (hm : m_X1_takeRow b0 fu a0 σ = some (v, τ)) : tMt l D aC b0 yX1_takeRow (Cond.code yX1_takeRow cX1_takeRow 2 (some (.object "SyncTree$Row"))) 2 40 [.ref (a0)] σ (.inl (some (va_rf v))) τ := by
  unfold m_X1_takeRow at hm
  obtain ⟨hg, hm⟩ := grw_e hm
  refine tMt_of (n := 0) rfl (Nat.le_of_ble_eq_true rfl) hg ?_
  intro p e s m below meth c C htab hin
  refine zx_lv [0] [(0, .ref (a0))] rfl ?_
  refine zx_aload_n C dX1_takeRow_0 0 rfl ?_
  obtain ⟨k1, i2, hm⟩ := ckO_e hm
  rcases omt_e hm with ⟨a3, h4, hm⟩ | ⟨h4, hm⟩
  · refine zx_get (j := 7) C tC_1 k1 i2 ⟨by decide, Or.inl W_1_187⟩ dX1_takeRow_1 (.ref a3) (rf_s h4) ?_
    refine zx_astore_n C [(1, .ref (a3)), (0, .ref (a0))] dX1_takeRow_4 rfl (by decide) rfl ?_
    refine zx_aload_n C dX1_takeRow_5 0 rfl ?_
    refine zx_ifnonnull C 17 dX1_takeRow_6 (by decide) ?_
    refine zx_aload_n C dX1_takeRow_17 1 rfl ?_
    refine zx_aload_n C dX1_takeRow_18 0 rfl ?_
    obtain ⟨k5, i6, hm⟩ := ckO_e hm
    rcases omt_e hm with ⟨a7, h8, hm⟩ | ⟨h8, hm⟩
    · refine zx_get (j := 1) C tC_4 k5 i6 ⟨by decide, Or.inr ⟨_, W_2_192⟩⟩ dX1_takeRow_19 (.ref a7) (rf_s h8) ?_
      refine zx_put (j := 7) (ρ := sA (σ) (a0) 7 (some (a7))) C tC_1 k1 i2 ⟨by decide, Or.inl W_1_187⟩ rfl rfl rfl (sA_ok (fun _ => rfl)) dX1_takeRow_22 ?_
      refine zx_aload_n C dX1_takeRow_25 0 rfl ?_
      refine zx_null C dX1_takeRow_26 ?_
      refine zx_put (j := 1) (ρ := sA (sA (σ) (a0) 7 (some (a7))) (a3) 1 (none)) C tC_4 k5 i6 ⟨by decide, Or.inr ⟨_, W_2_192⟩⟩ rfl rfl rfl (sA_ok (fun _ => rfl)) dX1_takeRow_27 ?_
      refine zx_aload_n C dX1_takeRow_30 0 rfl ?_
      obtain ⟨rfl, rfl⟩ := ret_e hm
      exact zx_aret (x := some (a3)) C rfl (Or.inl ⟨_, rfl⟩) rfl rfl dX1_takeRow_31
    · refine zx_get (j := 1) C tC_4 k5 i6 ⟨by decide, Or.inr ⟨_, W_2_192⟩⟩ dX1_takeRow_19 .null (rf_n h8) ?_
      refine zx_put (j := 7) (ρ := sA (σ) (a0) 7 (none)) C tC_1 k1 i2 ⟨by decide, Or.inl W_1_187⟩ rfl rfl rfl (sA_ok (fun _ => rfl)) dX1_takeRow_22 ?_
      refine zx_aload_n C dX1_takeRow_25 0 rfl ?_
      refine zx_null C dX1_takeRow_26 ?_
      refine zx_put (j := 1) (ρ := sA (sA (σ) (a0) 7 (none)) (a3) 1 (none)) C tC_4 k5 i6 ⟨by decide, Or.inr ⟨_, W_2_192⟩⟩ rfl rfl rfl (sA_ok (fun _ => rfl)) dX1_takeRow_27 ?_
      refine zx_aload_n C dX1_takeRow_30 0 rfl ?_
      obtain ⟨rfl, rfl⟩ := ret_e hm
      exact zx_aret (x := some (a3)) C rfl (Or.inl ⟨_, rfl⟩) rfl rfl dX1_takeRow_31
  · refine zx_get (j := 7) C tC_1 k1 i2 ⟨by decide, Or.inl W_1_187⟩ dX1_takeRow_1 .null (rf_n h4) ?_
    refine zx_astore_nN C [(1, .null), (0, .ref (a0))] dX1_takeRow_4 rfl (by decide) rfl ?_
    refine zx_aload_nN C dX1_takeRow_5 0 rfl ?_
    refine zx_ifnonnullN C dX1_takeRow_6 ?_
    refine zx_new C tC_4 W_1_179 W_2_184 W_1_13 dX1_takeRow_9 ?_
    refine zx_mem (fun ρ9 hρ9 => ?_)
    replace hm := ltb_e hm hρ9
    have k10 : tk ρ9 (b0 + tn σ) = .inl 4 := by rw [hρ9]; exact sN_k _ _ _ _
    have i11 : tIn b0 ρ9 (b0 + tn σ) := by rw [hρ9]; exact sN_i _ _ _ _
    refine zx_dup C dX1_takeRow_12 rfl ?_
    obtain ⟨v12, ρ13, h14, hm⟩ := cll_e hm
    refine zx_callIN (σ := ρ9) C [] Y_X4_init W_2_185 W_2_186 rfl (c_X4_init h14) (by decide) (by decide) rfl (Nat.le_of_ble_eq_true rfl) dX1_takeRow_13 rfl ?_
    obtain ⟨rfl, rfl⟩ := ret_e hm
    exact zx_aret (x := some (b0 + tn σ)) C rfl (Or.inl ⟨_, rfl⟩) rfl rfl dX1_takeRow_16
abbrev cX1_collect : ByteArray := prog_3_method_13_code
def yX1_collect : MethodName := ⟨"SyncTree$Journal", "collect", "(LSyncTree$Transaction;)V"⟩
theorem Y_X1_collect : tY yX1_collect cX1_collect 6 none 1 := ⟨W_4_56, W_1_5, ⟨by decide +kernel, by decide +kernel⟩, by decide +kernel⟩
theorem dX1_collect_0 : decode cX1_collect 0 = .ok (.iconst 0, 1) := by decide +kernel
theorem dX1_collect_1 : decode cX1_collect 1 = .ok (.istore_n 2, 1) := by decide +kernel
theorem dX1_collect_2 : decode cX1_collect 2 = .ok (.iconst 0, 1) := by decide +kernel
theorem dX1_collect_3 : decode cX1_collect 3 = .ok (.istore_n 3, 1) := by decide +kernel
theorem dX1_collect_4 : decode cX1_collect 4 = .ok (.iconst 1, 1) := by decide +kernel
theorem dX1_collect_5 : decode cX1_collect 5 = .ok (.istore 4, 2) := by decide +kernel
theorem dX1_collect_7 : decode cX1_collect 7 = .ok (.iload 4, 2) := by decide +kernel
theorem dX1_collect_9 : decode cX1_collect 9 = .ok (.aload_n 0, 1) := by decide +kernel
theorem dX1_collect_10 : decode cX1_collect 10 = .ok (.getfield 25, 3) := by decide +kernel
theorem dX1_collect_13 : decode cX1_collect 13 = .ok (.getfield 36, 3) := by decide +kernel
theorem dX1_collect_16 : decode cX1_collect 16 = .ok (.if_icmp .ge 116, 3) := by decide +kernel
theorem dX1_collect_19 : decode cX1_collect 19 = .ok (.iload_n 2, 1) := by decide +kernel
theorem dX1_collect_20 : decode cX1_collect 20 = .ok (.aload_n 1, 1) := by decide +kernel
theorem dX1_collect_21 : decode cX1_collect 21 = .ok (.getfield 157, 3) := by decide +kernel
theorem dX1_collect_24 : decode cX1_collect 24 = .ok (.arraylength, 1) := by decide +kernel
theorem dX1_collect_25 : decode cX1_collect 25 = .ok (.if_icmp .lt 12, 3) := by decide +kernel
theorem dX1_collect_28 : decode cX1_collect 28 = .ok (.iload_n 3, 1) := by decide +kernel
theorem dX1_collect_29 : decode cX1_collect 29 = .ok (.aload_n 1, 1) := by decide +kernel
theorem dX1_collect_30 : decode cX1_collect 30 = .ok (.getfield 161, 3) := by decide +kernel
theorem dX1_collect_33 : decode cX1_collect 33 = .ok (.arraylength, 1) := by decide +kernel
theorem dX1_collect_34 : decode cX1_collect 34 = .ok (.if_icmp .ge 98, 3) := by decide +kernel
theorem dX1_collect_37 : decode cX1_collect 37 = .ok (.aload_n 0, 1) := by decide +kernel
theorem dX1_collect_38 : decode cX1_collect 38 = .ok (.getfield 25, 3) := by decide +kernel
theorem dX1_collect_41 : decode cX1_collect 41 = .ok (.iload 4, 2) := by decide +kernel
theorem dX1_collect_43 : decode cX1_collect 43 = .ok (.invokevirtual 164, 3) := by decide +kernel
theorem dX1_collect_46 : decode cX1_collect 46 = .ok (.ifCond .eq 48, 3) := by decide +kernel
theorem dX1_collect_49 : decode cX1_collect 49 = .ok (.iload_n 2, 1) := by decide +kernel
theorem dX1_collect_50 : decode cX1_collect 50 = .ok (.aload_n 1, 1) := by decide +kernel
theorem dX1_collect_51 : decode cX1_collect 51 = .ok (.getfield 157, 3) := by decide +kernel
theorem dX1_collect_54 : decode cX1_collect 54 = .ok (.arraylength, 1) := by decide +kernel
theorem dX1_collect_55 : decode cX1_collect 55 = .ok (.if_icmp .ge 39, 3) := by decide +kernel
theorem dX1_collect_58 : decode cX1_collect 58 = .ok (.aload_n 0, 1) := by decide +kernel
theorem dX1_collect_59 : decode cX1_collect 59 = .ok (.invokevirtual 59, 3) := by decide +kernel
theorem dX1_collect_62 : decode cX1_collect 62 = .ok (.astore 5, 2) := by decide +kernel
theorem dX1_collect_64 : decode cX1_collect 64 = .ok (.aload_n 0, 1) := by decide +kernel
theorem dX1_collect_65 : decode cX1_collect 65 = .ok (.getfield 25, 3) := by decide +kernel
theorem dX1_collect_68 : decode cX1_collect 68 = .ok (.iload 4, 2) := by decide +kernel
theorem dX1_collect_70 : decode cX1_collect 70 = .ok (.aload 5, 2) := by decide +kernel
theorem dX1_collect_72 : decode cX1_collect 72 = .ok (.invokevirtual 63, 3) := by decide +kernel
theorem dX1_collect_75 : decode cX1_collect 75 = .ok (.aload_n 1, 1) := by decide +kernel
theorem dX1_collect_76 : decode cX1_collect 76 = .ok (.getfield 157, 3) := by decide +kernel
theorem dX1_collect_79 : decode cX1_collect 79 = .ok (.iload_n 2, 1) := by decide +kernel
theorem dX1_collect_80 : decode cX1_collect 80 = .ok (.iload 4, 2) := by decide +kernel
theorem dX1_collect_82 : decode cX1_collect 82 = .ok (.iastore, 1) := by decide +kernel
theorem dX1_collect_83 : decode cX1_collect 83 = .ok (.aload_n 1, 1) := by decide +kernel
theorem dX1_collect_84 : decode cX1_collect 84 = .ok (.getfield 168, 3) := by decide +kernel
theorem dX1_collect_87 : decode cX1_collect 87 = .ok (.iload_n 2, 1) := by decide +kernel
theorem dX1_collect_88 : decode cX1_collect 88 = .ok (.aload 5, 2) := by decide +kernel
theorem dX1_collect_90 : decode cX1_collect 90 = .ok (.aastore, 1) := by decide +kernel
theorem dX1_collect_91 : decode cX1_collect 91 = .ok (.iinc 2 1, 3) := by decide +kernel
theorem dX1_collect_94 : decode cX1_collect 94 = .ok (.aload_n 0, 1) := by decide +kernel
theorem dX1_collect_95 : decode cX1_collect 95 = .ok (.getfield 25, 3) := by decide +kernel
theorem dX1_collect_98 : decode cX1_collect 98 = .ok (.iload 4, 2) := by decide +kernel
theorem dX1_collect_100 : decode cX1_collect 100 = .ok (.invokevirtual 171, 3) := by decide +kernel
theorem dX1_collect_103 : decode cX1_collect 103 = .ok (.ifCond .eq 23, 3) := by decide +kernel
theorem dX1_collect_106 : decode cX1_collect 106 = .ok (.iload_n 3, 1) := by decide +kernel
theorem dX1_collect_107 : decode cX1_collect 107 = .ok (.aload_n 1, 1) := by decide +kernel
theorem dX1_collect_108 : decode cX1_collect 108 = .ok (.getfield 161, 3) := by decide +kernel
theorem dX1_collect_111 : decode cX1_collect 111 = .ok (.arraylength, 1) := by decide +kernel
theorem dX1_collect_112 : decode cX1_collect 112 = .ok (.if_icmp .ge 14, 3) := by decide +kernel
theorem dX1_collect_115 : decode cX1_collect 115 = .ok (.aload_n 1, 1) := by decide +kernel
theorem dX1_collect_116 : decode cX1_collect 116 = .ok (.getfield 161, 3) := by decide +kernel
theorem dX1_collect_119 : decode cX1_collect 119 = .ok (.iload_n 3, 1) := by decide +kernel
theorem dX1_collect_120 : decode cX1_collect 120 = .ok (.iload 4, 2) := by decide +kernel
theorem dX1_collect_122 : decode cX1_collect 122 = .ok (.iastore, 1) := by decide +kernel
theorem dX1_collect_123 : decode cX1_collect 123 = .ok (.iinc 3 1, 3) := by decide +kernel
theorem dX1_collect_126 : decode cX1_collect 126 = .ok (.iinc 4 1, 3) := by decide +kernel
theorem dX1_collect_129 : decode cX1_collect 129 = .ok (.goto (-122), 3) := by decide +kernel
theorem dX1_collect_132 : decode cX1_collect 132 = .ok (.return_, 1) := by decide +kernel
def J_X1_collect_132 (b0 fu : Nat)   (σ : tM) : Option ((Unit) × tM) := some ((), σ)
def J_X1_collect_126 (b0 fu : Nat) (rc7 : Nat → Option Nat → Int32 → Int32 → Int32 → tM → Option ((Unit) × tM)) (x0 : Nat) (x1 : Option Nat) (x2 : Int32) (x3 : Int32) (x4 : Int32) (σ : tM) : Option ((Unit) × tM) := ltb ((x4) + Int32.ofInt 1) (fun y38 => rc7 (x0) (x1) (x2) (x3) (y38) (σ))
def J_X1_collect_94 (b0 fu : Nat) (rc7 : Nat → Option Nat → Int32 → Int32 → Int32 → tM → Option ((Unit) × tM)) (x0 : Nat) (x1 : Option Nat) (x2 : Int32) (x3 : Int32) (x4 : Int32) (σ : tM) : Option ((Unit) × tM) := ckO b0 (σ) (x0) 1 (osm (tA (σ) (x0) 1) (fun a30 => ckO b0 (σ) (a30) 5 (cll (m_X5_isRevoked b0 fu (a30) (x4) (σ)) (fun v34 ρ35 => if (v34) = (0) then J_X1_collect_126 b0 fu rc7  (x0) (x1) (x2) (x3) (x4) (ρ35) else omt (x1) (fun o39 => ckO b0 (ρ35) (o39) 7 (osm (tA (ρ35) (o39) 6) (fun a43 => ckR b0 (ρ35) (a43) 0 (fun n47 => if (nI n47) ≤ (x3) then J_X1_collect_126 b0 fu rc7  (x0) (some (o39)) (x2) (x3) (x4) (ρ35) else osm (tA (ρ35) (o39) 6) (fun a49 => ckR b0 (ρ35) (a49) 0 (fun n53 => ckI (x3) (n53) (ltb ((x3) + Int32.ofInt 1) (fun y55 => J_X1_collect_126 b0 fu rc7  (x0) (some (o39)) (x2) (y55) (x4) (sI (ρ35) (a49) ((x3).toNatClampNeg) (x4)))))))))) (none)))))
def J_X1_collect_37 (b0 fu : Nat) (rc7 : Nat → Option Nat → Int32 → Int32 → Int32 → tM → Option ((Unit) × tM)) (x0 : Nat) (x1 : Option Nat) (x2 : Int32) (x3 : Int32) (x4 : Int32) (σ : tM) : Option ((Unit) × tM) := ckO b0 (σ) (x0) 1 (osm (tA (σ) (x0) 1) (fun a20 => ckO b0 (σ) (a20) 5 (cll (m_X5_isTouched b0 fu (a20) (x4) (σ)) (fun v24 ρ25 => if (v24) = (0) then J_X1_collect_94 b0 fu rc7  (x0) (x1) (x2) (x3) (x4) (ρ25) else omt (x1) (fun o56 => ckO b0 (ρ25) (o56) 7 (osm (tA (ρ25) (o56) 4) (fun a60 => ckR b0 (ρ25) (a60) 0 (fun n64 => if (nI n64) ≤ (x2) then J_X1_collect_94 b0 fu rc7  (x0) (some (o56)) (x2) (x3) (x4) (ρ25) else ckO b0 (ρ25) (x0) 1 (cll (m_X1_takeRow b0 fu (x0) (ρ25)) (fun v68 ρ69 => omt v68 (fun a71 => ckO b0 (ρ69) (x0) 1 (osm (tA (ρ69) (x0) 1) (fun a75 => ckO b0 (ρ69) (a75) 5 (cll (m_X5_save b0 fu (a75) (x4) (some (a71)) (ρ69)) (fun v79 ρ80 => ckO b0 (ρ80) (o56) 7 (osm (tA (ρ80) (o56) 4) (fun a84 => ckR b0 (ρ80) (a84) 0 (fun n88 => ckI (x2) (n88) (osm (tA (sI (ρ80) (a84) ((x2).toNatClampNeg) (x4)) (o56) 5) (fun a90 => ckR b0 (sI (ρ80) (a84) ((x2).toNatClampNeg) (x4)) (a90) 4 (fun n94 => ckI (x2) (n94) (ckO b0 (sI (ρ80) (a84) ((x2).toNatClampNeg) (x4)) (a71) 4 (ltb ((x2) + Int32.ofInt 1) (fun y98 => J_X1_collect_94 b0 fu rc7  (x0) (some (o56)) (y98) (x3) (x4) (sA (sI (ρ80) (a84) ((x2).toNatClampNeg) (x4)) (a90) ((x2).toNatClampNeg) (some (a71))))))))))))))))) (ckO b0 (ρ69) (x0) 1 (osm (tA (ρ69) (x0) 1) (fun a101 => ckO b0 (ρ69) (a101) 5 (cll (m_X5_save b0 fu (a101) (x4) (none) (ρ69)) (fun v105 ρ106 => ckO b0 (ρ106) (o56) 7 (osm (tA (ρ106) (o56) 4) (fun a110 => ckR b0 (ρ106) (a110) 0 (fun n114 => ckI (x2) (n114) (osm (tA (sI (ρ106) (a110) ((x2).toNatClampNeg) (x4)) (o56) 5) (fun a116 => ckR b0 (sI (ρ106) (a110) ((x2).toNatClampNeg) (x4)) (a116) 4 (fun n120 => ckI (x2) (n120) (ltb ((x2) + Int32.ofInt 1) (fun y122 => J_X1_collect_94 b0 fu rc7  (x0) (some (o56)) (y122) (x3) (x4) (sA (sI (ρ106) (a110) ((x2).toNatClampNeg) (x4)) (a116) ((x2).toNatClampNeg) none)))))))))))))))))))) (none)))))
def L_X1_collect_7 (b0 fu : Nat)  : Nat → Nat → Option Nat → Int32 → Int32 → Int32 → tM → Option ((Unit) × tM)
  | 0, _, _, _, _, _, _ => none
  | n + 1, x0, x1, x2, x3, x4, σ => ltb (L_X1_collect_7 b0 fu  n) (fun rc7 => ckO b0 (σ) (x0) 1 (osm (tA (σ) (x0) 1) (fun a3 => ckO b0 (σ) (a3) 5 (if (tI (σ) (a3) 7) ≤ (x4) then J_X1_collect_132 b0 fu    (σ) else omt (x1) (fun o8 => ckO b0 (σ) (o8) 7 (osm (tA (σ) (o8) 4) (fun a12 => ckR b0 (σ) (a12) 0 (fun n16 => if (x2) < (nI n16) then J_X1_collect_37 b0 fu rc7  (x0) (some (o8)) (x2) (x3) (x4) (σ) else osm (tA (σ) (o8) 6) (fun a123 => ckR b0 (σ) (a123) 0 (fun n127 => if (nI n127) ≤ (x3) then J_X1_collect_132 b0 fu    (σ) else J_X1_collect_37 b0 fu rc7  (x0) (some (o8)) (x2) (x3) (x4) (σ))))))) (none)))))
def m_X1_collect (b0 fu : Nat) (a0 : Nat) (p0 : Nat) (σ : tM) : Option ((Unit) × tM) := grw σ (L_X1_collect_7 b0 fu  (fu) (a0) (some (p0)) (0) (0) (1) (σ))
set_option maxRecDepth 100000 in
set_option maxHeartbeats 1000000 in
theorem j_X1_collect_132 {p : Program} {l : Launch} {e : Env} {s : State} {m : MethodId} {args : Array Value} {below : List Frame} {meth : Method} {c : Code} {D : va_G} {aC : Nat → ClassId} {b0 fu : Nat} {σ0 τ : tM} {v : Unit}  (C : tCx p l s m args meth c yX1_collect.cls cX1_collect 6 none D aC b0 σ0) (htab : ∀ x ∈ c.exceptionTable.toList, False) (hin : meth.name = yX1_collect.name)   {σ : tM} (hm : J_X1_collect_132 b0 fu   σ = some (v, τ)) : tX p l e s m args below meth c 6 3 61 D aC b0 σ0 (.inl none) τ 132 [] [] σ := by
  unfold J_X1_collect_132 at hm
  obtain ⟨rfl, rfl⟩ := ret_e hm
  exact zx_vret C rfl rfl rfl dX1_collect_132
set_option maxRecDepth 100000 in
set_option maxHeartbeats 1000000 in
theorem j_X1_collect_126 {p : Program} {l : Launch} {e : Env} {s : State} {m : MethodId} {args : Array Value} {below : List Frame} {meth : Method} {c : Code} {D : va_G} {aC : Nat → ClassId} {b0 fu : Nat} {σ0 τ : tM} {v : Unit} {rc7 : Nat → Option Nat → Int32 → Int32 → Int32 → tM → Option ((Unit) × tM)} (C : tCx p l s m args meth c yX1_collect.cls cX1_collect 6 none D aC b0 σ0) (htab : ∀ x ∈ c.exceptionTable.toList, False) (hin : meth.name = yX1_collect.name) (hrc7 : ∀ (x0 : Nat) (x1 : Option Nat) (x2 : Int32) (x3 : Int32) (x4 : Int32) (ρ : tM), rc7 x0 x1 x2 x3 x4 ρ = some (v, τ) → tX p l e s m args below meth c 6 3 61 D aC b0 σ0 (.inl none) τ 7 [(0, .ref (x0)), (1, va_rf (x1)), (2, .int (x2)), (3, .int (x3)), (4, .int (x4))] [] ρ) {x0 : Nat} {x1 : Option Nat} {x2 : Int32} {x3 : Int32} {x4 : Int32} {σ : tM} (hm : J_X1_collect_126 b0 fu rc7 x0 x1 x2 x3 x4 σ = some (v, τ)) : tX p l e s m args below meth c 6 3 61 D aC b0 σ0 (.inl none) τ 126 [(0, .ref (x0)), (1, va_rf (x1)), (2, .int (x2)), (3, .int (x3)), (4, .int (x4))] [] σ := by
  unfold J_X1_collect_126 at hm
  obtain ⟨y38, hy38⟩ : ∃ z : Int32, z = (x4) + Int32.ofInt 1 := ⟨_, rfl⟩
  replace hm := ltb_e hm hy38
  refine zx_iinc C [(4, .int (y38)), (0, .ref (x0)), (1, va_rf (x1)), (2, .int (x2)), (3, .int (x3))] dX1_collect_126 4 rfl hy38.symm (by decide) rfl ?_
  refine zx_goto C 7 dX1_collect_129 (by decide) ?_
  exact zx_lv [1, 2, 3, 4, 0] [(0, .ref (x0)), (1, va_rf (x1)), (2, .int (x2)), (3, .int (x3)), (4, .int (y38))] rfl (hrc7 _ _ _ _ _ _ hm)
set_option maxRecDepth 100000 in
set_option maxHeartbeats 1000000 in
theorem j_X1_collect_94 {p : Program} {l : Launch} {e : Env} {s : State} {m : MethodId} {args : Array Value} {below : List Frame} {meth : Method} {c : Code} {D : va_G} {aC : Nat → ClassId} {b0 fu : Nat} {σ0 τ : tM} {v : Unit} {rc7 : Nat → Option Nat → Int32 → Int32 → Int32 → tM → Option ((Unit) × tM)} (C : tCx p l s m args meth c yX1_collect.cls cX1_collect 6 none D aC b0 σ0) (htab : ∀ x ∈ c.exceptionTable.toList, False) (hin : meth.name = yX1_collect.name) (hrc7 : ∀ (x0 : Nat) (x1 : Option Nat) (x2 : Int32) (x3 : Int32) (x4 : Int32) (ρ : tM), rc7 x0 x1 x2 x3 x4 ρ = some (v, τ) → tX p l e s m args below meth c 6 3 61 D aC b0 σ0 (.inl none) τ 7 [(0, .ref (x0)), (1, va_rf (x1)), (2, .int (x2)), (3, .int (x3)), (4, .int (x4))] [] ρ) {x0 : Nat} {x1 : Option Nat} {x2 : Int32} {x3 : Int32} {x4 : Int32} {σ : tM} (hm : J_X1_collect_94 b0 fu rc7 x0 x1 x2 x3 x4 σ = some (v, τ)) : tX p l e s m args below meth c 6 3 61 D aC b0 σ0 (.inl none) τ 94 [(0, .ref (x0)), (1, va_rf (x1)), (2, .int (x2)), (3, .int (x3)), (4, .int (x4))] [] σ := by
  unfold J_X1_collect_94 at hm
  refine zx_aload_n C dX1_collect_94 0 rfl ?_
  obtain ⟨k28, i29, hm⟩ := ckO_e hm
  obtain ⟨a30, h31, hm⟩ := osm_e hm
  refine zx_get (j := 1) C tC_1 k28 i29 ⟨by decide, Or.inl W_1_181⟩ dX1_collect_95 (.ref a30) (rf_s h31) ?_
  refine zx_iload C dX1_collect_98 4 rfl ?_
  obtain ⟨k32, i33, hm⟩ := ckO_e hm
  obtain ⟨v34, ρ35, h36, hm⟩ := cll_e hm
  refine zx_callV (σ := σ) C [.int (x4)] tC_5 k32 i33 Y_X5_isRevoked W_4_61 W_4_62 W_4_63 (c_X5_isRevoked h36) (by decide) (by decide) rfl (Nat.le_of_ble_eq_true rfl) dX1_collect_100 rfl ?_
  refine zx_if_eq C 126 dX1_collect_103 (by decide) (fun c37 => ?_) (fun c37 => ?_)
  · replace hm := ip_e hm c37
    exact zx_lv [0, 1, 2, 3, 4] [(0, .ref (x0)), (1, va_rf (x1)), (2, .int (x2)), (3, .int (x3)), (4, .int (x4))] rfl (j_X1_collect_126 C htab hin hrc7   hm)
  · replace hm := in_e hm c37
    refine zx_iload_n C dX1_collect_106 3 rfl ?_
    rcases omt_e hm with ⟨o39, h40, hm⟩ | ⟨h40, hm⟩
    · refine zx_lv [0, 1, 2, 3, 4] [(0, .ref (x0)), (1, .ref (o39)), (2, .int (x2)), (3, .int (x3)), (4, .int (x4))] (by rw [h40]; rfl) ?_
      refine zx_aload_n C dX1_collect_107 1 rfl ?_
      obtain ⟨k41, i42, hm⟩ := ckO_e hm
      obtain ⟨a43, h44, hm⟩ := osm_e hm
      refine zx_get (j := 6) C tC_7 k41 i42 ⟨by decide, Or.inr ⟨_, W_4_34⟩⟩ dX1_collect_108 (.ref a43) (rf_s h44) ?_
      obtain ⟨n47, k45, i46, hm⟩ := ckR_e hm
      refine zx_alen C k45 (by decide) i46 dX1_collect_111 ?_
      refine zx_icmp_ge C 126 dX1_collect_112 (by decide) (fun c48 => ?_) (fun c48 => ?_)
      · replace hm := ip_e hm c48
        exact zx_lv [0, 1, 2, 3, 4] [(0, .ref (x0)), (1, va_rf (some (o39))), (2, .int (x2)), (3, .int (x3)), (4, .int (x4))] rfl (j_X1_collect_126 C htab hin hrc7   hm)
      · replace hm := in_e hm c48
        refine zx_aload_n C dX1_collect_115 1 rfl ?_
        obtain ⟨a49, h50, hm⟩ := osm_e hm
        refine zx_get (j := 6) C tC_7 k41 i42 ⟨by decide, Or.inr ⟨_, W_4_34⟩⟩ dX1_collect_116 (.ref a49) (rf_s h50) ?_
        refine zx_iload_n C dX1_collect_119 3 rfl ?_
        refine zx_iload C dX1_collect_120 4 rfl ?_
        obtain ⟨n53, k51, i52, hm⟩ := ckR_e hm
        obtain ⟨h54, hm⟩ := ckI_e hm
        refine zx_iast C k51 i52 h54 dX1_collect_122 ?_
        obtain ⟨y55, hy55⟩ : ∃ z : Int32, z = (x3) + Int32.ofInt 1 := ⟨_, rfl⟩
        replace hm := ltb_e hm hy55
        refine zx_iinc C [(3, .int (y55)), (0, .ref (x0)), (1, .ref (o39)), (2, .int (x2)), (4, .int (x4))] dX1_collect_123 3 rfl hy55.symm (by decide) rfl ?_
        exact zx_lv [1, 2, 3, 0, 4] [(0, .ref (x0)), (1, va_rf (some (o39))), (2, .int (x2)), (3, .int (y55)), (4, .int (x4))] rfl (j_X1_collect_126 C htab hin hrc7   hm)
    · refine zx_lv [0, 1, 2, 3, 4] [(0, .ref (x0)), (1, .null), (2, .int (x2)), (3, .int (x3)), (4, .int (x4))] (by rw [h40]; rfl) ?_
      refine zx_aload_nN C dX1_collect_107 1 rfl ?_
      cases hm
set_option maxRecDepth 100000 in
set_option maxHeartbeats 1000000 in
theorem j_X1_collect_37 {p : Program} {l : Launch} {e : Env} {s : State} {m : MethodId} {args : Array Value} {below : List Frame} {meth : Method} {c : Code} {D : va_G} {aC : Nat → ClassId} {b0 fu : Nat} {σ0 τ : tM} {v : Unit} {rc7 : Nat → Option Nat → Int32 → Int32 → Int32 → tM → Option ((Unit) × tM)} (C : tCx p l s m args meth c yX1_collect.cls cX1_collect 6 none D aC b0 σ0) (htab : ∀ x ∈ c.exceptionTable.toList, False) (hin : meth.name = yX1_collect.name) (hrc7 : ∀ (x0 : Nat) (x1 : Option Nat) (x2 : Int32) (x3 : Int32) (x4 : Int32) (ρ : tM), rc7 x0 x1 x2 x3 x4 ρ = some (v, τ) → tX p l e s m args below meth c 6 3 61 D aC b0 σ0 (.inl none) τ 7 [(0, .ref (x0)), (1, va_rf (x1)), (2, .int (x2)), (3, .int (x3)), (4, .int (x4))] [] ρ) {x0 : Nat} {x1 : Option Nat} {x2 : Int32} {x3 : Int32} {x4 : Int32} {σ : tM} (hm : J_X1_collect_37 b0 fu rc7 x0 x1 x2 x3 x4 σ = some (v, τ)) : tX p l e s m args below meth c 6 3 61 D aC b0 σ0 (.inl none) τ 37 [(0, .ref (x0)), (1, va_rf (x1)), (2, .int (x2)), (3, .int (x3)), (4, .int (x4))] [] σ := by
  unfold J_X1_collect_37 at hm
  refine zx_aload_n C dX1_collect_37 0 rfl ?_
  obtain ⟨k18, i19, hm⟩ := ckO_e hm
  obtain ⟨a20, h21, hm⟩ := osm_e hm
  refine zx_get (j := 1) C tC_1 k18 i19 ⟨by decide, Or.inl W_1_181⟩ dX1_collect_38 (.ref a20) (rf_s h21) ?_
  refine zx_iload C dX1_collect_41 4 rfl ?_
  obtain ⟨k22, i23, hm⟩ := ckO_e hm
  obtain ⟨v24, ρ25, h26, hm⟩ := cll_e hm
  refine zx_callV (σ := σ) C [.int (x4)] tC_5 k22 i23 Y_X5_isTouched W_4_57 W_4_58 W_4_59 (c_X5_isTouched h26) (by decide) (by decide) rfl (Nat.le_of_ble_eq_true rfl) dX1_collect_43 rfl ?_
  refine zx_if_eq C 94 dX1_collect_46 (by decide) (fun c27 => ?_) (fun c27 => ?_)
  · replace hm := ip_e hm c27
    exact zx_lv [0, 1, 2, 3, 4] [(0, .ref (x0)), (1, va_rf (x1)), (2, .int (x2)), (3, .int (x3)), (4, .int (x4))] rfl (j_X1_collect_94 C htab hin hrc7   hm)
  · replace hm := in_e hm c27
    refine zx_iload_n C dX1_collect_49 2 rfl ?_
    rcases omt_e hm with ⟨o56, h57, hm⟩ | ⟨h57, hm⟩
    · refine zx_lv [0, 1, 2, 3, 4] [(0, .ref (x0)), (1, .ref (o56)), (2, .int (x2)), (3, .int (x3)), (4, .int (x4))] (by rw [h57]; rfl) ?_
      refine zx_aload_n C dX1_collect_50 1 rfl ?_
      obtain ⟨k58, i59, hm⟩ := ckO_e hm
      obtain ⟨a60, h61, hm⟩ := osm_e hm
      refine zx_get (j := 4) C tC_7 k58 i59 ⟨by decide, Or.inr ⟨_, W_4_30⟩⟩ dX1_collect_51 (.ref a60) (rf_s h61) ?_
      obtain ⟨n64, k62, i63, hm⟩ := ckR_e hm
      refine zx_alen C k62 (by decide) i63 dX1_collect_54 ?_
      refine zx_icmp_ge C 94 dX1_collect_55 (by decide) (fun c65 => ?_) (fun c65 => ?_)
      · replace hm := ip_e hm c65
        exact zx_lv [0, 1, 2, 3, 4] [(0, .ref (x0)), (1, va_rf (some (o56))), (2, .int (x2)), (3, .int (x3)), (4, .int (x4))] rfl (j_X1_collect_94 C htab hin hrc7   hm)
      · replace hm := in_e hm c65
        refine zx_aload_n C dX1_collect_58 0 rfl ?_
        obtain ⟨k66, i67, hm⟩ := ckO_e hm
        obtain ⟨v68, ρ69, h70, hm⟩ := cll_e hm
        rcases omt_e hm with ⟨a71, h72, hm⟩ | ⟨h72, hm⟩
        · subst h72
          refine zx_callV (σ := ρ25) C [] tC_1 k66 i67 Y_X1_takeRow W_2_180 W_2_182 Wp_9 (c_X1_takeRow h70) (by decide) (by decide) rfl (Nat.le_of_ble_eq_true rfl) dX1_collect_59 rfl ?_
          refine zx_astore C [(5, .ref (a71)), (0, .ref (x0)), (1, .ref (o56)), (2, .int (x2)), (3, .int (x3)), (4, .int (x4))] dX1_collect_62 (by decide) rfl ?_
          refine zx_aload_n C dX1_collect_64 1 rfl ?_
          obtain ⟨k73, i74, hm⟩ := ckO_e hm
          obtain ⟨a75, h76, hm⟩ := osm_e hm
          refine zx_get (j := 1) C tC_1 k73 i74 ⟨by decide, Or.inl W_1_181⟩ dX1_collect_65 (.ref a75) (rf_s h76) ?_
          refine zx_iload C dX1_collect_68 5 rfl ?_
          refine zx_aload C dX1_collect_70 0 rfl ?_
          obtain ⟨k77, i78, hm⟩ := ckO_e hm
          obtain ⟨v79, ρ80, h81, hm⟩ := cll_e hm
          refine zx_callV (σ := ρ69) C [.int (x4), va_rf (some (a71))] tC_5 k77 i78 Y_X5_save W_2_198 W_2_199 W_2_200 (c_X5_save h81) (by decide) (by decide) rfl (Nat.le_of_ble_eq_true rfl) dX1_collect_72 rfl ?_
          refine zx_aload_n C dX1_collect_75 2 rfl ?_
          obtain ⟨k82, i83, hm⟩ := ckO_e hm
          obtain ⟨a84, h85, hm⟩ := osm_e hm
          refine zx_get (j := 4) C tC_7 k82 i83 ⟨by decide, Or.inr ⟨_, W_4_30⟩⟩ dX1_collect_76 (.ref a84) (rf_s h85) ?_
          refine zx_iload_n C dX1_collect_79 3 rfl ?_
          refine zx_iload C dX1_collect_80 5 rfl ?_
          obtain ⟨n88, k86, i87, hm⟩ := ckR_e hm
          obtain ⟨h89, hm⟩ := ckI_e hm
          refine zx_iast C k86 i87 h89 dX1_collect_82 ?_
          refine zx_aload_n C dX1_collect_83 2 rfl ?_
          obtain ⟨a90, h91, hm⟩ := osm_e hm
          refine zx_get (j := 5) C tC_7 k82 i83 ⟨by decide, Or.inr ⟨_, W_4_32⟩⟩ dX1_collect_84 (.ref a90) (rf_s h91) ?_
          refine zx_iload_n C dX1_collect_87 3 rfl ?_
          refine zx_aload C dX1_collect_88 0 rfl ?_
          obtain ⟨n94, k92, i93, hm⟩ := ckR_e hm
          obtain ⟨h95, hm⟩ := ckI_e hm
          obtain ⟨k96, i97, hm⟩ := ckO_e hm
          refine zx_ast C k92 i93 k96 i97 h95 dX1_collect_90 ?_
          obtain ⟨y98, hy98⟩ : ∃ z : Int32, z = (x2) + Int32.ofInt 1 := ⟨_, rfl⟩
          replace hm := ltb_e hm hy98
          refine zx_iinc C [(2, .int (y98)), (5, .ref (a71)), (0, .ref (x0)), (1, .ref (o56)), (3, .int (x3)), (4, .int (x4))] dX1_collect_91 3 rfl hy98.symm (by decide) rfl ?_
          exact zx_lv [2, 3, 0, 4, 5] [(0, .ref (x0)), (1, va_rf (some (o56))), (2, .int (y98)), (3, .int (x3)), (4, .int (x4))] rfl (j_X1_collect_94 C htab hin hrc7   hm)
        · subst h72
          refine zx_callV (σ := ρ25) C [] tC_1 k66 i67 Y_X1_takeRow W_2_180 W_2_182 Wp_9 (c_X1_takeRow h70) (by decide) (by decide) rfl (Nat.le_of_ble_eq_true rfl) dX1_collect_59 rfl ?_
          refine zx_astoreN C [(5, .null), (0, .ref (x0)), (1, .ref (o56)), (2, .int (x2)), (3, .int (x3)), (4, .int (x4))] dX1_collect_62 (by decide) rfl ?_
          refine zx_aload_n C dX1_collect_64 1 rfl ?_
          obtain ⟨k99, i100, hm⟩ := ckO_e hm
          obtain ⟨a101, h102, hm⟩ := osm_e hm
          refine zx_get (j := 1) C tC_1 k99 i100 ⟨by decide, Or.inl W_1_181⟩ dX1_collect_65 (.ref a101) (rf_s h102) ?_
          refine zx_iload C dX1_collect_68 5 rfl ?_
          refine zx_aloadN C dX1_collect_70 0 rfl ?_
          obtain ⟨k103, i104, hm⟩ := ckO_e hm
          obtain ⟨v105, ρ106, h107, hm⟩ := cll_e hm
          refine zx_callV (σ := ρ69) C [.int (x4), va_rf (none)] tC_5 k103 i104 Y_X5_save W_2_198 W_2_199 W_2_200 (c_X5_save h107) (by decide) (by decide) rfl (Nat.le_of_ble_eq_true rfl) dX1_collect_72 rfl ?_
          refine zx_aload_n C dX1_collect_75 2 rfl ?_
          obtain ⟨k108, i109, hm⟩ := ckO_e hm
          obtain ⟨a110, h111, hm⟩ := osm_e hm
          refine zx_get (j := 4) C tC_7 k108 i109 ⟨by decide, Or.inr ⟨_, W_4_30⟩⟩ dX1_collect_76 (.ref a110) (rf_s h111) ?_
          refine zx_iload_n C dX1_collect_79 3 rfl ?_
          refine zx_iload C dX1_collect_80 5 rfl ?_
          obtain ⟨n114, k112, i113, hm⟩ := ckR_e hm
          obtain ⟨h115, hm⟩ := ckI_e hm
          refine zx_iast C k112 i113 h115 dX1_collect_82 ?_
          refine zx_aload_n C dX1_collect_83 2 rfl ?_
          obtain ⟨a116, h117, hm⟩ := osm_e hm
          refine zx_get (j := 5) C tC_7 k108 i109 ⟨by decide, Or.inr ⟨_, W_4_32⟩⟩ dX1_collect_84 (.ref a116) (rf_s h117) ?_
          refine zx_iload_n C dX1_collect_87 3 rfl ?_
          refine zx_aloadN C dX1_collect_88 0 rfl ?_
          obtain ⟨n120, k118, i119, hm⟩ := ckR_e hm
          obtain ⟨h121, hm⟩ := ckI_e hm
          refine zx_astN C k118 i119 h121 dX1_collect_90 ?_
          obtain ⟨y122, hy122⟩ : ∃ z : Int32, z = (x2) + Int32.ofInt 1 := ⟨_, rfl⟩
          replace hm := ltb_e hm hy122
          refine zx_iinc C [(2, .int (y122)), (5, .null), (0, .ref (x0)), (1, .ref (o56)), (3, .int (x3)), (4, .int (x4))] dX1_collect_91 3 rfl hy122.symm (by decide) rfl ?_
          exact zx_lv [2, 3, 0, 4, 5] [(0, .ref (x0)), (1, va_rf (some (o56))), (2, .int (y122)), (3, .int (x3)), (4, .int (x4))] rfl (j_X1_collect_94 C htab hin hrc7   hm)
    · refine zx_lv [0, 1, 2, 3, 4] [(0, .ref (x0)), (1, .null), (2, .int (x2)), (3, .int (x3)), (4, .int (x4))] (by rw [h57]; rfl) ?_
      refine zx_aload_nN C dX1_collect_50 1 rfl ?_
      cases hm
set_option maxRecDepth 100000 in
set_option maxHeartbeats 1000000 in
theorem l_X1_collect_7 {p : Program} {l : Launch} {e : Env} {s : State} {m : MethodId} {args : Array Value} {below : List Frame} {meth : Method} {c : Code} {D : va_G} {aC : Nat → ClassId} {b0 fu : Nat} {σ0 τ : tM} {v : Unit}  (C : tCx p l s m args meth c yX1_collect.cls cX1_collect 6 none D aC b0 σ0) (htab : ∀ x ∈ c.exceptionTable.toList, False) (hin : meth.name = yX1_collect.name)  : ∀ (n : Nat) (x0 : Nat) (x1 : Option Nat) (x2 : Int32) (x3 : Int32) (x4 : Int32) (σ : tM), L_X1_collect_7 b0 fu  n x0 x1 x2 x3 x4 σ = some (v, τ) → tX p l e s m args below meth c 6 3 61 D aC b0 σ0 (.inl none) τ 7 [(0, .ref (x0)), (1, va_rf (x1)), (2, .int (x2)), (3, .int (x3)), (4, .int (x4))] [] σ := by
  intro n
  induction n with
  | zero => intro x0 x1 x2 x3 x4 σ hm; unfold L_X1_collect_7 at hm; cases hm
  | succ n ih =>
    intro x0 x1 x2 x3 x4 σ hm
    unfold L_X1_collect_7 at hm
    obtain ⟨rc7, hrc⟩ : ∃ z, z = L_X1_collect_7 b0 fu  n := ⟨_, rfl⟩
    replace hm := ltb_e hm hrc
    rw [← hrc] at ih
    have hrc7 := ih
    clear ih hrc
    refine zx_iload C dX1_collect_7 4 rfl ?_
    refine zx_aload_n C dX1_collect_9 0 rfl ?_
    obtain ⟨k1, i2, hm⟩ := ckO_e hm
    obtain ⟨a3, h4, hm⟩ := osm_e hm
    refine zx_get (j := 1) C tC_1 k1 i2 ⟨by decide, Or.inl W_1_181⟩ dX1_collect_10 (.ref a3) (rf_s h4) ?_
    obtain ⟨k5, i6, hm⟩ := ckO_e hm
    refine zx_get (j := 7) C tC_5 k5 i6 ⟨by decide, Or.inr ⟨_, W_1_103⟩⟩ dX1_collect_13 (.int (tI (σ) (a3) 7)) rfl ?_
    refine zx_icmp_ge C 132 dX1_collect_16 (by decide) (fun c7 => ?_) (fun c7 => ?_)
    · replace hm := ip_e hm c7
      exact zx_lv [] [] rfl (j_X1_collect_132 C htab hin    hm)
    · replace hm := in_e hm c7
      refine zx_iload_n C dX1_collect_19 2 rfl ?_
      rcases omt_e hm with ⟨o8, h9, hm⟩ | ⟨h9, hm⟩
      · refine zx_lv [0, 1, 2, 3, 4] [(0, .ref (x0)), (1, .ref (o8)), (2, .int (x2)), (3, .int (x3)), (4, .int (x4))] (by rw [h9]; rfl) ?_
        refine zx_aload_n C dX1_collect_20 1 rfl ?_
        obtain ⟨k10, i11, hm⟩ := ckO_e hm
        obtain ⟨a12, h13, hm⟩ := osm_e hm
        refine zx_get (j := 4) C tC_7 k10 i11 ⟨by decide, Or.inr ⟨_, W_4_30⟩⟩ dX1_collect_21 (.ref a12) (rf_s h13) ?_
        obtain ⟨n16, k14, i15, hm⟩ := ckR_e hm
        refine zx_alen C k14 (by decide) i15 dX1_collect_24 ?_
        refine zx_icmp_lt C 37 dX1_collect_25 (by decide) (fun c17 => ?_) (fun c17 => ?_)
        · replace hm := ip_e hm c17
          exact zx_lv [0, 1, 2, 3, 4] [(0, .ref (x0)), (1, va_rf (some (o8))), (2, .int (x2)), (3, .int (x3)), (4, .int (x4))] rfl (j_X1_collect_37 C htab hin hrc7   hm)
        · replace hm := in_e hm c17
          refine zx_iload_n C dX1_collect_28 3 rfl ?_
          refine zx_aload_n C dX1_collect_29 1 rfl ?_
          obtain ⟨a123, h124, hm⟩ := osm_e hm
          refine zx_get (j := 6) C tC_7 k10 i11 ⟨by decide, Or.inr ⟨_, W_4_34⟩⟩ dX1_collect_30 (.ref a123) (rf_s h124) ?_
          obtain ⟨n127, k125, i126, hm⟩ := ckR_e hm
          refine zx_alen C k125 (by decide) i126 dX1_collect_33 ?_
          refine zx_icmp_ge C 132 dX1_collect_34 (by decide) (fun c128 => ?_) (fun c128 => ?_)
          · replace hm := ip_e hm c128
            exact zx_lv [] [] rfl (j_X1_collect_132 C htab hin    hm)
          · replace hm := in_e hm c128
            exact zx_lv [0, 1, 2, 3, 4] [(0, .ref (x0)), (1, va_rf (some (o8))), (2, .int (x2)), (3, .int (x3)), (4, .int (x4))] rfl (j_X1_collect_37 C htab hin hrc7   hm)
      · refine zx_lv [0, 1, 2, 3, 4] [(0, .ref (x0)), (1, .null), (2, .int (x2)), (3, .int (x3)), (4, .int (x4))] (by rw [h9]; rfl) ?_
        refine zx_aload_nN C dX1_collect_20 1 rfl ?_
        cases hm
set_option maxRecDepth 100000 in
set_option maxHeartbeats 1000000 in
theorem c_X1_collect {l : Launch} {D : va_G} {aC : Nat → ClassId} {b0 fu : Nat} {a0 : Nat} {p0 : Nat} {σ τ : tM} {v : Unit} (hm : m_X1_collect b0 fu a0 p0 σ = some (v, τ)) : tMt l D aC b0 yX1_collect (Cond.code yX1_collect cX1_collect 6 none) 3 61 [.ref (a0), .ref (p0)] σ (.inl none) τ := by
  unfold m_X1_collect at hm
  obtain ⟨hg, hm⟩ := grw_e hm
  refine tMt_of (n := 0) rfl (Nat.le_of_ble_eq_true rfl) hg ?_
  intro p e s m below meth c C htab hin
  refine zx_lv [0, 1] [(0, .ref (a0)), (1, .ref (p0))] rfl ?_
  refine zx_iconst (v := 0) C dX1_collect_0 (by decide) ?_
  refine zx_istore_n C [(2, .int (0)), (0, .ref (a0)), (1, .ref (p0))] dX1_collect_1 rfl (by decide) rfl ?_
  refine zx_iconst (v := 0) C dX1_collect_2 (by decide) ?_
  refine zx_istore_n C [(3, .int (0)), (2, .int (0)), (0, .ref (a0)), (1, .ref (p0))] dX1_collect_3 rfl (by decide) rfl ?_
  refine zx_iconst (v := 1) C dX1_collect_4 (by decide) ?_
  refine zx_istore C [(4, .int (1)), (3, .int (0)), (2, .int (0)), (0, .ref (a0)), (1, .ref (p0))] dX1_collect_5 (by decide) rfl ?_
  exact zx_lv [3, 4, 2, 1, 0] [(0, .ref (a0)), (1, va_rf (some (p0))), (2, .int (0)), (3, .int (0)), (4, .int (1))] rfl (l_X1_collect_7 C htab hin  _ _ _ _ _ _ _ hm)
