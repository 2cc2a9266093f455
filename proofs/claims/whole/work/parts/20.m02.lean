abbrev cX1_setMarks : ByteArray := prog_3_method_24_code
def yX1_setMarks : MethodName := ⟨"SyncTree$Journal", "setMarks", "([II)V"⟩
theorem Y_X1_setMarks : tY yX1_setMarks cX1_setMarks 4 none 2 := ⟨W_6_145, W_1_5, ⟨by decide +kernel, by decide +kernel⟩, by decide +kernel⟩
theorem dX1_setMarks_0 : decode cX1_setMarks 0 = .ok (.iconst 0, 1) := by decide +kernel
theorem dX1_setMarks_1 : decode cX1_setMarks 1 = .ok (.istore_n 3, 1) := by decide +kernel
theorem dX1_setMarks_2 : decode cX1_setMarks 2 = .ok (.iload_n 3, 1) := by decide +kernel
theorem dX1_setMarks_3 : decode cX1_setMarks 3 = .ok (.aload_n 1, 1) := by decide +kernel
theorem dX1_setMarks_4 : decode cX1_setMarks 4 = .ok (.arraylength, 1) := by decide +kernel
theorem dX1_setMarks_5 : decode cX1_setMarks 5 = .ok (.if_icmp .ge 34, 3) := by decide +kernel
theorem dX1_setMarks_8 : decode cX1_setMarks 8 = .ok (.aload_n 1, 1) := by decide +kernel
theorem dX1_setMarks_9 : decode cX1_setMarks 9 = .ok (.iload_n 3, 1) := by decide +kernel
theorem dX1_setMarks_10 : decode cX1_setMarks 10 = .ok (.iaload, 1) := by decide +kernel
theorem dX1_setMarks_11 : decode cX1_setMarks 11 = .ok (.ifCond .lt 22, 3) := by decide +kernel
theorem dX1_setMarks_14 : decode cX1_setMarks 14 = .ok (.aload_n 1, 1) := by decide +kernel
theorem dX1_setMarks_15 : decode cX1_setMarks 15 = .ok (.iload_n 3, 1) := by decide +kernel
theorem dX1_setMarks_16 : decode cX1_setMarks 16 = .ok (.iaload, 1) := by decide +kernel
theorem dX1_setMarks_17 : decode cX1_setMarks 17 = .ok (.sipush 2034, 3) := by decide +kernel
theorem dX1_setMarks_20 : decode cX1_setMarks 20 = .ok (.if_icmp .ge 13, 3) := by decide +kernel
theorem dX1_setMarks_23 : decode cX1_setMarks 23 = .ok (.aload_n 0, 1) := by decide +kernel
theorem dX1_setMarks_24 : decode cX1_setMarks 24 = .ok (.getfield 17, 3) := by decide +kernel
theorem dX1_setMarks_27 : decode cX1_setMarks 27 = .ok (.aload_n 1, 1) := by decide +kernel
theorem dX1_setMarks_28 : decode cX1_setMarks 28 = .ok (.iload_n 3, 1) := by decide +kernel
theorem dX1_setMarks_29 : decode cX1_setMarks 29 = .ok (.iaload, 1) := by decide +kernel
theorem dX1_setMarks_30 : decode cX1_setMarks 30 = .ok (.iload_n 2, 1) := by decide +kernel
theorem dX1_setMarks_31 : decode cX1_setMarks 31 = .ok (.i2b, 1) := by decide +kernel
theorem dX1_setMarks_32 : decode cX1_setMarks 32 = .ok (.bastore, 1) := by decide +kernel
theorem dX1_setMarks_33 : decode cX1_setMarks 33 = .ok (.iinc 3 1, 3) := by decide +kernel
theorem dX1_setMarks_36 : decode cX1_setMarks 36 = .ok (.goto (-34), 3) := by decide +kernel
theorem dX1_setMarks_39 : decode cX1_setMarks 39 = .ok (.return_, 1) := by decide +kernel
def J_X1_setMarks_33 (b0 fu : Nat) (rc2 : Nat → Nat → Int32 → Int32 → tM → Option ((Unit) × tM)) (x0 : Nat) (x1 : Nat) (x2 : Int32) (x3 : Int32) (σ : tM) : Option ((Unit) × tM) := ltb ((x3) + Int32.ofInt 1) (fun y7 => rc2 (x0) (x1) (x2) (y7) (σ))
def L_X1_setMarks_2 (b0 fu : Nat)  : Nat → Nat → Nat → Int32 → Int32 → tM → Option ((Unit) × tM)
  | 0, _, _, _, _, _ => none
  | n + 1, x0, x1, x2, x3, σ => ltb (L_X1_setMarks_2 b0 fu  n) (fun rc2 => ckR b0 (σ) (x1) 0 (fun n3 => if (nI n3) ≤ (x3) then some ((), σ) else ckI (x3) (n3) (if (tI (σ) (x1) ((x3).toNatClampNeg)) < (0) then J_X1_setMarks_33 b0 fu rc2  (x0) (x1) (x2) (x3) (σ) else ckI (x3) (n3) (if (2034) ≤ (tI (σ) (x1) ((x3).toNatClampNeg)) then J_X1_setMarks_33 b0 fu rc2  (x0) (x1) (x2) (x3) (σ) else ckO b0 (σ) (x0) 1 (osm (tA (σ) (x0) 4) (fun a12 => ckI (x3) (n3) (ckR b0 (σ) (a12) 1 (fun n17 => ckI (tI (σ) (x1) ((x3).toNatClampNeg)) (n17) (J_X1_setMarks_33 b0 fu rc2  (x0) (x1) (x2) (x3) (sI (σ) (a12) ((tI (σ) (x1) ((x3).toNatClampNeg)).toNatClampNeg) (vp_nar .byte ((x2).toInt8.toInt32))))))))))))
def m_X1_setMarks (b0 fu : Nat) (a0 : Nat) (p0 : Nat) (p1 : Int32) (σ : tM) : Option ((Unit) × tM) := grw σ (L_X1_setMarks_2 b0 fu  (fu) (a0) (p0) (p1) (0) (σ))
set_option maxRecDepth 100000 in
set_option maxHeartbeats 1000000 in
theorem j_X1_setMarks_33 {p : Program} {l : Launch} {e : Env} {s : State} {m : MethodId} {args : Array Value} {below : List Frame} {meth : Method} {c : Code} {D : va_G} {aC : Nat → ClassId} {b0 fu : Nat} {σ0 τ : tM} {v : Unit} {rc2 : Nat → Nat → Int32 → Int32 → tM → Option ((Unit) × tM)} (C : tCx p l s m args meth c yX1_setMarks.cls cX1_setMarks 4 none D aC b0 σ0) (htab : ∀ x ∈ c.exceptionTable.toList, False) (hin : meth.name = yX1_setMarks.name) (hrc2 : ∀ (x0 : Nat) (x1 : Nat) (x2 : Int32) (x3 : Int32) (ρ : tM), rc2 x0 x1 x2 x3 ρ = some (v, τ) → tX p l e s m args below meth c 4 0 0 D aC b0 σ0 (.inl none) τ 2 [(0, .ref (x0)), (1, .ref (x1)), (2, .int (x2)), (3, .int (x3))] [] ρ) {x0 : Nat} {x1 : Nat} {x2 : Int32} {x3 : Int32} {σ : tM} (hm : J_X1_setMarks_33 b0 fu rc2 x0 x1 x2 x3 σ = some (v, τ)) : tX p l e s m args below meth c 4 0 0 D aC b0 σ0 (.inl none) τ 33 [(0, .ref (x0)), (1, .ref (x1)), (2, .int (x2)), (3, .int (x3))] [] σ := by
  unfold J_X1_setMarks_33 at hm
  obtain ⟨y7, hy7⟩ : ∃ z : Int32, z = (x3) + Int32.ofInt 1 := ⟨_, rfl⟩
  replace hm := ltb_e hm hy7
  refine zx_iinc C [(3, .int (y7)), (0, .ref (x0)), (1, .ref (x1)), (2, .int (x2))] dX1_setMarks_33 3 rfl hy7.symm (by decide) rfl ?_
  refine zx_goto C 2 dX1_setMarks_36 (by decide) ?_
  exact zx_lv [1, 2, 3, 0] [(0, .ref (x0)), (1, .ref (x1)), (2, .int (x2)), (3, .int (y7))] rfl (hrc2 _ _ _ _ _ hm)
set_option maxRecDepth 100000 in
set_option maxHeartbeats 1000000 in
theorem l_X1_setMarks_2 {p : Program} {l : Launch} {e : Env} {s : State} {m : MethodId} {args : Array Value} {below : List Frame} {meth : Method} {c : Code} {D : va_G} {aC : Nat → ClassId} {b0 fu : Nat} {σ0 τ : tM} {v : Unit}  (C : tCx p l s m args meth c yX1_setMarks.cls cX1_setMarks 4 none D aC b0 σ0) (htab : ∀ x ∈ c.exceptionTable.toList, False) (hin : meth.name = yX1_setMarks.name)  : ∀ (n : Nat) (x0 : Nat) (x1 : Nat) (x2 : Int32) (x3 : Int32) (σ : tM), L_X1_setMarks_2 b0 fu  n x0 x1 x2 x3 σ = some (v, τ) → tX p l e s m args below meth c 4 0 0 D aC b0 σ0 (.inl none) τ 2 [(0, .ref (x0)), (1, .ref (x1)), (2, .int (x2)), (3, .int (x3))] [] σ := by
  intro n
  induction n with
  | zero => intro x0 x1 x2 x3 σ hm; unfold L_X1_setMarks_2 at hm; cases hm
  | succ n ih =>
    intro x0 x1 x2 x3 σ hm
    unfold L_X1_setMarks_2 at hm
    obtain ⟨rc2, hrc⟩ : ∃ z, z = L_X1_setMarks_2 b0 fu  n := ⟨_, rfl⟩
    replace hm := ltb_e hm hrc
    rw [← hrc] at ih
    have hrc2 := ih
    clear ih hrc
    refine zx_iload_n C dX1_setMarks_2 3 rfl ?_
    refine zx_aload_n C dX1_setMarks_3 1 rfl ?_
    obtain ⟨n3, k1, i2, hm⟩ := ckR_e hm
    refine zx_alen C k1 (by decide) i2 dX1_setMarks_4 ?_
    refine zx_icmp_ge C 39 dX1_setMarks_5 (by decide) (fun c4 => ?_) (fun c4 => ?_)
    · replace hm := ip_e hm c4
      obtain ⟨rfl, rfl⟩ := ret_e hm
      exact zx_vret C rfl rfl rfl dX1_setMarks_39
    · replace hm := in_e hm c4
      refine zx_aload_n C dX1_setMarks_8 1 rfl ?_
      refine zx_iload_n C dX1_setMarks_9 3 rfl ?_
      obtain ⟨h5, hm⟩ := ckI_e hm
      refine zx_iald C k1 i2 h5 dX1_setMarks_10 ?_
      refine zx_if_lt C 33 dX1_setMarks_11 (by decide) (fun c6 => ?_) (fun c6 => ?_)
      · replace hm := ip_e hm c6
        exact zx_lv [0, 1, 2, 3] [(0, .ref (x0)), (1, .ref (x1)), (2, .int (x2)), (3, .int (x3))] rfl (j_X1_setMarks_33 C htab hin hrc2   hm)
      · replace hm := in_e hm c6
        refine zx_aload_n C dX1_setMarks_14 1 rfl ?_
        refine zx_iload_n C dX1_setMarks_15 3 rfl ?_
        obtain ⟨h8, hm⟩ := ckI_e hm
        refine zx_iald C k1 i2 h8 dX1_setMarks_16 ?_
        refine zx_sipush (v := 2034) C dX1_setMarks_17 (by decide) ?_
        refine zx_icmp_ge C 33 dX1_setMarks_20 (by decide) (fun c9 => ?_) (fun c9 => ?_)
        · replace hm := ip_e hm c9
          exact zx_lv [0, 1, 2, 3] [(0, .ref (x0)), (1, .ref (x1)), (2, .int (x2)), (3, .int (x3))] rfl (j_X1_setMarks_33 C htab hin hrc2   hm)
        · replace hm := in_e hm c9
          refine zx_aload_n C dX1_setMarks_23 0 rfl ?_
          obtain ⟨k10, i11, hm⟩ := ckO_e hm
          obtain ⟨a12, h13, hm⟩ := osm_e hm
          refine zx_get (j := 4) C tC_1 k10 i11 ⟨by decide, Or.inl W_1_184⟩ dX1_setMarks_24 (.ref a12) (rf_s h13) ?_
          refine zx_aload_n C dX1_setMarks_27 1 rfl ?_
          refine zx_iload_n C dX1_setMarks_28 3 rfl ?_
          obtain ⟨h14, hm⟩ := ckI_e hm
          refine zx_iald C k1 i2 h14 dX1_setMarks_29 ?_
          refine zx_iload_n C dX1_setMarks_30 2 rfl ?_
          refine zx_i2b C dX1_setMarks_31 ?_
          obtain ⟨n17, k15, i16, hm⟩ := ckR_e hm
          obtain ⟨h18, hm⟩ := ckI_e hm
          refine zx_bast C k15 i16 h18 dX1_setMarks_32 ?_
          exact zx_lv [0, 1, 2, 3] [(0, .ref (x0)), (1, .ref (x1)), (2, .int (x2)), (3, .int (x3))] rfl (j_X1_setMarks_33 C htab hin hrc2   hm)
set_option maxRecDepth 100000 in
set_option maxHeartbeats 1000000 in
theorem c_X1_setMarks {l : Launch} {D : va_G} {aC : Nat → ClassId} {b0 fu : Nat} {a0 : Nat} {p0 : Nat} {p1 : Int32} {σ τ : tM} {v : Unit} (hm : m_X1_setMarks b0 fu a0 p0 p1 σ = some (v, τ)) : tMt l D aC b0 yX1_setMarks (Cond.code yX1_setMarks cX1_setMarks 4 none) 0 0 [.ref (a0), .ref (p0), .int (p1)] σ (.inl none) τ := by
  unfold m_X1_setMarks at hm
  obtain ⟨hg, hm⟩ := grw_e hm
  refine tMt_of (n := 0) rfl (Nat.le_of_ble_eq_true rfl) hg ?_
  intro p e s m below meth c C htab hin
  refine zx_lv [0, 1, 2] [(0, .ref (a0)), (1, .ref (p0)), (2, .int (p1))] rfl ?_
  refine zx_iconst (v := 0) C dX1_setMarks_0 (by decide) ?_
  refine zx_istore_n C [(3, .int (0)), (0, .ref (a0)), (1, .ref (p0)), (2, .int (p1))] dX1_setMarks_1 rfl (by decide) rfl ?_
  exact zx_lv [1, 2, 3, 0] [(0, .ref (a0)), (1, .ref (p0)), (2, .int (p1)), (3, .int (0))] rfl (l_X1_setMarks_2 C htab hin  _ _ _ _ _ _ hm)
abbrev cX1_figure : ByteArray := prog_3_method_25_code
def yX1_figure : MethodName := ⟨"SyncTree$Journal", "figure", "(I)I"⟩
theorem Y_X1_figure : tY yX1_figure cX1_figure 2 (some .int) 1 := ⟨W_3_99, W_1_5, ⟨by decide +kernel, by decide +kernel⟩, by decide +kernel⟩
theorem dX1_figure_0 : decode cX1_figure 0 = .ok (.iload_n 1, 1) := by decide +kernel
theorem dX1_figure_1 : decode cX1_figure 1 = .ok (.tableswitch 74 12 17 #[39, 44, 49, 54, 59, 64], 39) := by decide +kernel
theorem dX1_figure_40 : decode cX1_figure 40 = .ok (.aload_n 0, 1) := by decide +kernel
theorem dX1_figure_41 : decode cX1_figure 41 = .ok (.getfield 66, 3) := by decide +kernel
theorem dX1_figure_44 : decode cX1_figure 44 = .ok (.ireturn, 1) := by decide +kernel
theorem dX1_figure_45 : decode cX1_figure 45 = .ok (.aload_n 0, 1) := by decide +kernel
theorem dX1_figure_46 : decode cX1_figure 46 = .ok (.getfield 69, 3) := by decide +kernel
theorem dX1_figure_49 : decode cX1_figure 49 = .ok (.ireturn, 1) := by decide +kernel
theorem dX1_figure_50 : decode cX1_figure 50 = .ok (.aload_n 0, 1) := by decide +kernel
theorem dX1_figure_51 : decode cX1_figure 51 = .ok (.getfield 72, 3) := by decide +kernel
theorem dX1_figure_54 : decode cX1_figure 54 = .ok (.ireturn, 1) := by decide +kernel
theorem dX1_figure_55 : decode cX1_figure 55 = .ok (.aload_n 0, 1) := by decide +kernel
theorem dX1_figure_56 : decode cX1_figure 56 = .ok (.getfield 75, 3) := by decide +kernel
theorem dX1_figure_59 : decode cX1_figure 59 = .ok (.ireturn, 1) := by decide +kernel
theorem dX1_figure_60 : decode cX1_figure 60 = .ok (.aload_n 0, 1) := by decide +kernel
theorem dX1_figure_61 : decode cX1_figure 61 = .ok (.getfield 78, 3) := by decide +kernel
theorem dX1_figure_64 : decode cX1_figure 64 = .ok (.ireturn, 1) := by decide +kernel
theorem dX1_figure_65 : decode cX1_figure 65 = .ok (.aload_n 0, 1) := by decide +kernel
theorem dX1_figure_66 : decode cX1_figure 66 = .ok (.getfield 46, 3) := by decide +kernel
theorem dX1_figure_69 : decode cX1_figure 69 = .ok (.aload_n 0, 1) := by decide +kernel
theorem dX1_figure_70 : decode cX1_figure 70 = .ok (.getfield 81, 3) := by decide +kernel
theorem dX1_figure_73 : decode cX1_figure 73 = .ok (.isub, 1) := by decide +kernel
theorem dX1_figure_74 : decode cX1_figure 74 = .ok (.ireturn, 1) := by decide +kernel
theorem dX1_figure_75 : decode cX1_figure 75 = .ok (.aload_n 0, 1) := by decide +kernel
theorem dX1_figure_76 : decode cX1_figure 76 = .ok (.getfield 84, 3) := by decide +kernel
theorem dX1_figure_79 : decode cX1_figure 79 = .ok (.ireturn, 1) := by decide +kernel
def m_X1_figure (b0 fu : Nat) (a0 : Nat) (p0 : Int32) (σ : tM) : Option ((Int32) × tM) := grw σ (if (p0) = (12) then ckO b0 (σ) (a0) 1 (some (tI (σ) (a0) 12, σ)) else if (p0) = (13) then ckO b0 (σ) (a0) 1 (some (tI (σ) (a0) 13, σ)) else if (p0) = (14) then ckO b0 (σ) (a0) 1 (some (tI (σ) (a0) 14, σ)) else if (p0) = (15) then ckO b0 (σ) (a0) 1 (some (tI (σ) (a0) 15, σ)) else if (p0) = (16) then ckO b0 (σ) (a0) 1 (some (tI (σ) (a0) 16, σ)) else if (p0) = (17) then ckO b0 (σ) (a0) 1 (some ((tI (σ) (a0) 8) - (tI (σ) (a0) 9), σ)) else ckO b0 (σ) (a0) 1 (some (tI (σ) (a0) 10, σ)))
set_option maxRecDepth 100000 in
set_option maxHeartbeats 1000000 in
theorem c_X1_figure {l : Launch} {D : va_G} {aC : Nat → ClassId} {b0 fu : Nat} {a0 : Nat} {p0 : Int32} {σ τ : tM} {v : Int32} (hm : m_X1_figure b0 fu a0 p0 σ = some (v, τ)) : tMt l D aC b0 yX1_figure (Cond.code yX1_figure cX1_figure 2 (some .int)) 0 0 [.ref (a0), .int (p0)] σ (.inl (some (.int v))) τ := by
  unfold m_X1_figure at hm
  obtain ⟨hg, hm⟩ := grw_e hm
  refine tMt_of (n := 0) rfl (Nat.le_of_ble_eq_true rfl) hg ?_
  intro p e s m below meth c C htab hin
  refine zx_lv [0, 1] [(0, .ref (a0)), (1, .int (p0))] rfl ?_
  refine zx_iload_n C dX1_figure_0 1 rfl ?_
  rcases Classical.em ((p0) = (12)) with c1_12 | c1_12
  · replace hm := ip_e hm c1_12
    refine zx_tabIn (off := 39) C 40 dX1_figure_1 (by rw [c1_12]; decide) (by rw [c1_12]; decide) (by rw [c1_12]; decide) (by decide) ?_
    refine zx_aload_n C dX1_figure_40 0 rfl ?_
    obtain ⟨k1, i2, hm⟩ := ckO_e hm
    refine zx_get (j := 12) C tC_1 k1 i2 ⟨by decide, Or.inl W_1_192⟩ dX1_figure_41 (.int (tI (σ) (a0) 12)) rfl ?_
    obtain ⟨rfl, rfl⟩ := ret_e hm
    exact zx_iret C rfl rfl rfl dX1_figure_44
  · replace hm := in_e hm c1_12
    rcases Classical.em ((p0) = (13)) with c1_13 | c1_13
    · replace hm := ip_e hm c1_13
      refine zx_tabIn (off := 44) C 45 dX1_figure_1 (by rw [c1_13]; decide) (by rw [c1_13]; decide) (by rw [c1_13]; decide) (by decide) ?_
      refine zx_aload_n C dX1_figure_45 0 rfl ?_
      obtain ⟨k3, i4, hm⟩ := ckO_e hm
      refine zx_get (j := 13) C tC_1 k3 i4 ⟨by decide, Or.inl W_1_193⟩ dX1_figure_46 (.int (tI (σ) (a0) 13)) rfl ?_
      obtain ⟨rfl, rfl⟩ := ret_e hm
      exact zx_iret C rfl rfl rfl dX1_figure_49
    · replace hm := in_e hm c1_13
      rcases Classical.em ((p0) = (14)) with c1_14 | c1_14
      · replace hm := ip_e hm c1_14
        refine zx_tabIn (off := 49) C 50 dX1_figure_1 (by rw [c1_14]; decide) (by rw [c1_14]; decide) (by rw [c1_14]; decide) (by decide) ?_
        refine zx_aload_n C dX1_figure_50 0 rfl ?_
        obtain ⟨k5, i6, hm⟩ := ckO_e hm
        refine zx_get (j := 14) C tC_1 k5 i6 ⟨by decide, Or.inl W_1_194⟩ dX1_figure_51 (.int (tI (σ) (a0) 14)) rfl ?_
        obtain ⟨rfl, rfl⟩ := ret_e hm
        exact zx_iret C rfl rfl rfl dX1_figure_54
      · replace hm := in_e hm c1_14
        rcases Classical.em ((p0) = (15)) with c1_15 | c1_15
        · replace hm := ip_e hm c1_15
          refine zx_tabIn (off := 54) C 55 dX1_figure_1 (by rw [c1_15]; decide) (by rw [c1_15]; decide) (by rw [c1_15]; decide) (by decide) ?_
          refine zx_aload_n C dX1_figure_55 0 rfl ?_
          obtain ⟨k7, i8, hm⟩ := ckO_e hm
          refine zx_get (j := 15) C tC_1 k7 i8 ⟨by decide, Or.inl W_1_195⟩ dX1_figure_56 (.int (tI (σ) (a0) 15)) rfl ?_
          obtain ⟨rfl, rfl⟩ := ret_e hm
          exact zx_iret C rfl rfl rfl dX1_figure_59
        · replace hm := in_e hm c1_15
          rcases Classical.em ((p0) = (16)) with c1_16 | c1_16
          · replace hm := ip_e hm c1_16
            refine zx_tabIn (off := 59) C 60 dX1_figure_1 (by rw [c1_16]; decide) (by rw [c1_16]; decide) (by rw [c1_16]; decide) (by decide) ?_
            refine zx_aload_n C dX1_figure_60 0 rfl ?_
            obtain ⟨k9, i10, hm⟩ := ckO_e hm
            refine zx_get (j := 16) C tC_1 k9 i10 ⟨by decide, Or.inl W_1_196⟩ dX1_figure_61 (.int (tI (σ) (a0) 16)) rfl ?_
            obtain ⟨rfl, rfl⟩ := ret_e hm
            exact zx_iret C rfl rfl rfl dX1_figure_64
          · replace hm := in_e hm c1_16
            rcases Classical.em ((p0) = (17)) with c1_17 | c1_17
            · replace hm := ip_e hm c1_17
              refine zx_tabIn (off := 64) C 65 dX1_figure_1 (by rw [c1_17]; decide) (by rw [c1_17]; decide) (by rw [c1_17]; decide) (by decide) ?_
              refine zx_aload_n C dX1_figure_65 0 rfl ?_
              obtain ⟨k11, i12, hm⟩ := ckO_e hm
              refine zx_get (j := 8) C tC_1 k11 i12 ⟨by decide, Or.inl W_1_188⟩ dX1_figure_66 (.int (tI (σ) (a0) 8)) rfl ?_
              refine zx_aload_n C dX1_figure_69 0 rfl ?_
              refine zx_get (j := 9) C tC_1 k11 i12 ⟨by decide, Or.inl W_1_189⟩ dX1_figure_70 (.int (tI (σ) (a0) 9)) rfl ?_
              refine zx_isub C dX1_figure_73 ?_
              obtain ⟨rfl, rfl⟩ := ret_e hm
              exact zx_iret C rfl rfl rfl dX1_figure_74
            · replace hm := in_e hm c1_17
              have g1_12 : (p0).toInt ≠ 12 := fun e9 => c1_12 (Int32.toInt_inj.mp (e9.trans (by decide)))
              have g1_13 : (p0).toInt ≠ 13 := fun e9 => c1_13 (Int32.toInt_inj.mp (e9.trans (by decide)))
              have g1_14 : (p0).toInt ≠ 14 := fun e9 => c1_14 (Int32.toInt_inj.mp (e9.trans (by decide)))
              have g1_15 : (p0).toInt ≠ 15 := fun e9 => c1_15 (Int32.toInt_inj.mp (e9.trans (by decide)))
              have g1_16 : (p0).toInt ≠ 16 := fun e9 => c1_16 (Int32.toInt_inj.mp (e9.trans (by decide)))
              have g1_17 : (p0).toInt ≠ 17 := fun e9 => c1_17 (Int32.toInt_inj.mp (e9.trans (by decide)))
              refine zx_tabOut C 75 dX1_figure_1 (by omega) (by decide) ?_
              refine zx_aload_n C dX1_figure_75 0 rfl ?_
              obtain ⟨k13, i14, hm⟩ := ckO_e hm
              refine zx_get (j := 10) C tC_1 k13 i14 ⟨by decide, Or.inl W_1_190⟩ dX1_figure_76 (.int (tI (σ) (a0) 10)) rfl ?_
              obtain ⟨rfl, rfl⟩ := ret_e hm
              exact zx_iret C rfl rfl rfl dX1_figure_79
abbrev cX2_init : ByteArray := prog_4_method_1_code
def yX2_init : MethodName := ⟨"SyncTree$Loader", "<init>", "(LSyncTree$Disk;LSyncTree$Space;LSyncTree$Tree;LSyncTree$Journal;)V"⟩
theorem Y_X2_init : tY yX2_init cX2_init 5 none 4 := ⟨W_1_239, W_1_6, ⟨by decide +kernel, by decide +kernel⟩, by decide +kernel⟩
theorem dX2_init_0 : decode cX2_init 0 = .ok (.aload_n 0, 1) := by decide +kernel
theorem dX2_init_1 : decode cX2_init 1 = .ok (.invokespecial 3, 3) := by decide +kernel
theorem dX2_init_4 : decode cX2_init 4 = .ok (.aload_n 0, 1) := by decide +kernel
theorem dX2_init_5 : decode cX2_init 5 = .ok (.aload_n 1, 1) := by decide +kernel
theorem dX2_init_6 : decode cX2_init 6 = .ok (.putfield 9, 3) := by decide +kernel
theorem dX2_init_9 : decode cX2_init 9 = .ok (.aload_n 0, 1) := by decide +kernel
theorem dX2_init_10 : decode cX2_init 10 = .ok (.aload_n 2, 1) := by decide +kernel
theorem dX2_init_11 : decode cX2_init 11 = .ok (.putfield 15, 3) := by decide +kernel
theorem dX2_init_14 : decode cX2_init 14 = .ok (.aload_n 0, 1) := by decide +kernel
theorem dX2_init_15 : decode cX2_init 15 = .ok (.aload_n 3, 1) := by decide +kernel
theorem dX2_init_16 : decode cX2_init 16 = .ok (.putfield 19, 3) := by decide +kernel
theorem dX2_init_19 : decode cX2_init 19 = .ok (.aload_n 0, 1) := by decide +kernel
theorem dX2_init_20 : decode cX2_init 20 = .ok (.aload 4, 2) := by decide +kernel
theorem dX2_init_22 : decode cX2_init 22 = .ok (.putfield 23, 3) := by decide +kernel
theorem dX2_init_25 : decode cX2_init 25 = .ok (.return_, 1) := by decide +kernel
def m_X2_init (b0 fu : Nat) (a0 : Nat) (p0 : Nat) (p1 : Nat) (p2 : Nat) (p3 : Nat) (σ : tM) : Option ((Unit) × tM) := grw σ (ckO b0 (σ) (a0) 2 (some ((), sA (sA (sA (sA (σ) (a0) 0 (some (p0))) (a0) 1 (some (p1))) (a0) 2 (some (p2))) (a0) 3 (some (p3)))))
set_option maxRecDepth 100000 in
set_option maxHeartbeats 1000000 in
theorem c_X2_init {l : Launch} {D : va_G} {aC : Nat → ClassId} {b0 fu : Nat} {a0 : Nat} {p0 : Nat} {p1 : Nat} {p2 : Nat} {p3 : Nat} {σ τ : tM} {v : Unit} (hm : m_X2_init b0 fu a0 p0 p1 p2 p3 σ = some (v, τ)) : tMt l D aC b0 yX2_init (Cond.code yX2_init cX2_init 5 none) 1 20 [.ref (a0), .ref (p0), .ref (p1), .ref (p2), .ref (p3)] σ (.inl none) τ := by
  unfold m_X2_init at hm
  obtain ⟨hg, hm⟩ := grw_e hm
  refine tMt_of (n := 0) rfl (Nat.le_of_ble_eq_true rfl) hg ?_
  intro p e s m below meth c C htab hin
  refine zx_lv [0, 1, 2, 3, 4] [(0, .ref (a0)), (1, .ref (p0)), (2, .ref (p1)), (3, .ref (p2)), (4, .ref (p3))] rfl ?_
  refine zx_aload_n C dX2_init_0 0 rfl ?_
  refine zx_obj C W_2_0 W_1_26 W_1_27 (by decide) (by decide) (Nat.le_of_ble_eq_true rfl) dX2_init_1 ?_
  refine zx_aload_n C dX2_init_4 0 rfl ?_
  refine zx_aload_n C dX2_init_5 1 rfl ?_
  obtain ⟨k1, i2, hm⟩ := ckO_e hm
  refine zx_putF (j := 0) (ρ := sA (σ) (a0) 0 (some (p0))) C hin tC_2 k1 i2 (by decide) W_2_1 rfl rfl rfl rfl (sA_ok (fun _ => rfl)) dX2_init_6 ?_
  refine zx_aload_n C dX2_init_9 0 rfl ?_
  refine zx_aload_n C dX2_init_10 2 rfl ?_
  refine zx_putF (j := 1) (ρ := sA (sA (σ) (a0) 0 (some (p0))) (a0) 1 (some (p1))) C hin tC_2 k1 i2 (by decide) W_2_2 rfl rfl rfl rfl (sA_ok (fun _ => rfl)) dX2_init_11 ?_
  refine zx_aload_n C dX2_init_14 0 rfl ?_
  refine zx_aload_n C dX2_init_15 3 rfl ?_
  refine zx_putF (j := 2) (ρ := sA (sA (sA (σ) (a0) 0 (some (p0))) (a0) 1 (some (p1))) (a0) 2 (some (p2))) C hin tC_2 k1 i2 (by decide) W_2_3 rfl rfl rfl rfl (sA_ok (fun _ => rfl)) dX2_init_16 ?_
  refine zx_aload_n C dX2_init_19 0 rfl ?_
  refine zx_aload C dX2_init_20 4 rfl ?_
  refine zx_putF (j := 3) (ρ := sA (sA (sA (sA (σ) (a0) 0 (some (p0))) (a0) 1 (some (p1))) (a0) 2 (some (p2))) (a0) 3 (some (p3))) C hin tC_2 k1 i2 (by decide) W_2_4 rfl rfl rfl rfl (sA_ok (fun _ => rfl)) dX2_init_22 ?_
  obtain ⟨rfl, rfl⟩ := ret_e hm
  exact zx_vret C rfl rfl rfl dX2_init_25
abbrev cX3_init : ByteArray := prog_5_method_1_code
def yX3_init : MethodName := ⟨"SyncTree$PathText", "<init>", "()V"⟩
theorem Y_X3_init : tY yX3_init cX3_init 1 none 0 := ⟨W_2_54, W_1_9, ⟨by decide +kernel, by decide +kernel⟩, by decide +kernel⟩
theorem dX3_init_0 : decode cX3_init 0 = .ok (.aload_n 0, 1) := by decide +kernel
theorem dX3_init_1 : decode cX3_init 1 = .ok (.invokespecial 3, 3) := by decide +kernel
theorem dX3_init_4 : decode cX3_init 4 = .ok (.aload_n 0, 1) := by decide +kernel
theorem dX3_init_5 : decode cX3_init 5 = .ok (.bipush 120, 2) := by decide +kernel
theorem dX3_init_7 : decode cX3_init 7 = .ok (.newarray .byte, 2) := by decide +kernel
theorem dX3_init_9 : decode cX3_init 9 = .ok (.putfield 9, 3) := by decide +kernel
theorem dX3_init_12 : decode cX3_init 12 = .ok (.return_, 1) := by decide +kernel
def m_X3_init (b0 fu : Nat) (a0 : Nat) (σ : tM) : Option ((Unit) × tM) := grw σ (ltb (sN (σ) (b0 + tn σ) (.inr (1, ((120 : Int32)).toNatClampNeg)) (((120 : Int32)).toNatClampNeg)) (fun ρ1 => ckO b0 (ρ1) (a0) 3 (some ((), sA (ρ1) (a0) 0 (some (b0 + tn σ))))))
set_option maxRecDepth 100000 in
set_option maxHeartbeats 1000000 in
theorem c_X3_init {l : Launch} {D : va_G} {aC : Nat → ClassId} {b0 fu : Nat} {a0 : Nat} {σ τ : tM} {v : Unit} (hm : m_X3_init b0 fu a0 σ = some (v, τ)) : tMt l D aC b0 yX3_init (Cond.code yX3_init cX3_init 1 none) 1 20 [.ref (a0)] σ (.inl none) τ := by
  unfold m_X3_init at hm
  obtain ⟨hg, hm⟩ := grw_e hm
  refine tMt_of (n := 0) rfl (Nat.le_of_ble_eq_true rfl) hg ?_
  intro p e s m below meth c C htab hin
  refine zx_lv [0] [(0, .ref (a0))] rfl ?_
  refine zx_aload_n C dX3_init_0 0 rfl ?_
  refine zx_obj C W_2_55 W_1_26 W_1_27 (by decide) (by decide) (Nat.le_of_ble_eq_true rfl) dX3_init_1 ?_
  refine zx_aload_n C dX3_init_4 0 rfl ?_
  refine zx_bipush (v := 120) C dX3_init_5 (by decide) ?_
  refine zx_newB C W_1_156 (by decide) (by decide) dX3_init_7 ?_
  refine zx_mem (fun ρ1 hρ1 => ?_)
  replace hm := ltb_e hm hρ1
  have k2 : tk ρ1 (b0 + tn σ) = .inr (1, ((120 : Int32)).toNatClampNeg) := by rw [hρ1]; exact sN_k _ _ _ _
  have i3 : tIn b0 ρ1 (b0 + tn σ) := by rw [hρ1]; exact sN_i _ _ _ _
  obtain ⟨k4, i5, hm⟩ := ckO_e hm
  refine zx_putF (j := 0) (ρ := sA (ρ1) (a0) 0 (some (b0 + tn σ))) C hin tC_3 k4 i5 (by decide) W_2_56 rfl rfl rfl rfl (sA_ok (fun _ => rfl)) dX3_init_9 ?_
  obtain ⟨rfl, rfl⟩ := ret_e hm
  exact zx_vret C rfl rfl rfl dX3_init_12
abbrev cX3_forget : ByteArray := prog_5_method_2_code
def yX3_forget : MethodName := ⟨"SyncTree$PathText", "forget", "()V"⟩
theorem Y_X3_forget : tY yX3_forget cX3_forget 1 none 0 := ⟨W_2_209, W_1_9, ⟨by decide +kernel, by decide +kernel⟩, by decide +kernel⟩
theorem dX3_forget_0 : decode cX3_forget 0 = .ok (.aload_n 0, 1) := by decide +kernel
theorem dX3_forget_1 : decode cX3_forget 1 = .ok (.iconst 0, 1) := by decide +kernel
theorem dX3_forget_2 : decode cX3_forget 2 = .ok (.putfield 15, 3) := by decide +kernel
theorem dX3_forget_5 : decode cX3_forget 5 = .ok (.aload_n 0, 1) := by decide +kernel
theorem dX3_forget_6 : decode cX3_forget 6 = .ok (.iconst 0, 1) := by decide +kernel
theorem dX3_forget_7 : decode cX3_forget 7 = .ok (.putfield 19, 3) := by decide +kernel
theorem dX3_forget_10 : decode cX3_forget 10 = .ok (.aload_n 0, 1) := by decide +kernel
theorem dX3_forget_11 : decode cX3_forget 11 = .ok (.iconst 0, 1) := by decide +kernel
theorem dX3_forget_12 : decode cX3_forget 12 = .ok (.putfield 22, 3) := by decide +kernel
theorem dX3_forget_15 : decode cX3_forget 15 = .ok (.return_, 1) := by decide +kernel
def m_X3_forget (b0 fu : Nat) (a0 : Nat) (σ : tM) : Option ((Unit) × tM) := grw σ (ckO b0 (σ) (a0) 3 (some ((), sI (sI (sI (σ) (a0) 1 (0)) (a0) 2 (0)) (a0) 3 (0))))
set_option maxRecDepth 100000 in
set_option maxHeartbeats 1000000 in
theorem c_X3_forget {l : Launch} {D : va_G} {aC : Nat → ClassId} {b0 fu : Nat} {a0 : Nat} {σ τ : tM} {v : Unit} (hm : m_X3_forget b0 fu a0 σ = some (v, τ)) : tMt l D aC b0 yX3_forget (Cond.code yX3_forget cX3_forget 1 none) 0 0 [.ref (a0)] σ (.inl none) τ := by
  unfold m_X3_forget at hm
  obtain ⟨hg, hm⟩ := grw_e hm
  refine tMt_of (n := 0) rfl (Nat.le_of_ble_eq_true rfl) hg ?_
  intro p e s m below meth c C htab hin
  refine zx_lv [0] [(0, .ref (a0))] rfl ?_
  refine zx_aload_n C dX3_forget_0 0 rfl ?_
  refine zx_iconst (v := 0) C dX3_forget_1 (by decide) ?_
  obtain ⟨k1, i2, hm⟩ := ckO_e hm
  refine zx_put (j := 1) (ρ := sI (σ) (a0) 1 (0)) C tC_3 k1 i2 ⟨by decide, Or.inl W_2_59⟩ rfl rfl rfl (sI_ok (fun _ => rfl)) dX3_forget_2 ?_
  refine zx_aload_n C dX3_forget_5 0 rfl ?_
  refine zx_iconst (v := 0) C dX3_forget_6 (by decide) ?_
  refine zx_put (j := 2) (ρ := sI (sI (σ) (a0) 1 (0)) (a0) 2 (0)) C tC_3 k1 i2 ⟨by decide, Or.inl W_2_63⟩ rfl rfl rfl (sI_ok (fun _ => rfl)) dX3_forget_7 ?_
  refine zx_aload_n C dX3_forget_10 0 rfl ?_
  refine zx_iconst (v := 0) C dX3_forget_11 (by decide) ?_
  refine zx_put (j := 3) (ρ := sI (sI (sI (σ) (a0) 1 (0)) (a0) 2 (0)) (a0) 3 (0)) C tC_3 k1 i2 ⟨by decide, Or.inl W_2_66⟩ rfl rfl rfl (sI_ok (fun _ => rfl)) dX3_forget_12 ?_
  obtain ⟨rfl, rfl⟩ := ret_e hm
  exact zx_vret C rfl rfl rfl dX3_forget_15
abbrev cX3_isDots : ByteArray := prog_5_method_5_code
def yX3_isDots : MethodName := ⟨"SyncTree$PathText", "isDots", "([BII)Z"⟩
theorem Y_X3_isDots : tY yX3_isDots cX3_isDots 3 (some .boolean) 3 := ⟨W_4_95, W_1_9, ⟨by decide +kernel, by decide +kernel⟩, by decide +kernel⟩
theorem dX3_isDots_0 : decode cX3_isDots 0 = .ok (.iload_n 2, 1) := by decide +kernel
theorem dX3_isDots_1 : decode cX3_isDots 1 = .ok (.iconst 1, 1) := by decide +kernel
theorem dX3_isDots_2 : decode cX3_isDots 2 = .ok (.if_icmp .lt 20, 3) := by decide +kernel
theorem dX3_isDots_5 : decode cX3_isDots 5 = .ok (.iload_n 2, 1) := by decide +kernel
theorem dX3_isDots_6 : decode cX3_isDots 6 = .ok (.iconst 2, 1) := by decide +kernel
theorem dX3_isDots_7 : decode cX3_isDots 7 = .ok (.if_icmp .gt 15, 3) := by decide +kernel
theorem dX3_isDots_10 : decode cX3_isDots 10 = .ok (.iload_n 1, 1) := by decide +kernel
theorem dX3_isDots_11 : decode cX3_isDots 11 = .ok (.ifCond .lt 11, 3) := by decide +kernel
theorem dX3_isDots_14 : decode cX3_isDots 14 = .ok (.iload_n 1, 1) := by decide +kernel
theorem dX3_isDots_15 : decode cX3_isDots 15 = .ok (.aload_n 0, 1) := by decide +kernel
theorem dX3_isDots_16 : decode cX3_isDots 16 = .ok (.arraylength, 1) := by decide +kernel
theorem dX3_isDots_17 : decode cX3_isDots 17 = .ok (.iload_n 2, 1) := by decide +kernel
theorem dX3_isDots_18 : decode cX3_isDots 18 = .ok (.isub, 1) := by decide +kernel
theorem dX3_isDots_19 : decode cX3_isDots 19 = .ok (.if_icmp .le 5, 3) := by decide +kernel
theorem dX3_isDots_22 : decode cX3_isDots 22 = .ok (.iconst 0, 1) := by decide +kernel
theorem dX3_isDots_23 : decode cX3_isDots 23 = .ok (.ireturn, 1) := by decide +kernel
theorem dX3_isDots_24 : decode cX3_isDots 24 = .ok (.aload_n 0, 1) := by decide +kernel
theorem dX3_isDots_25 : decode cX3_isDots 25 = .ok (.iload_n 1, 1) := by decide +kernel
theorem dX3_isDots_26 : decode cX3_isDots 26 = .ok (.baload, 1) := by decide +kernel
theorem dX3_isDots_27 : decode cX3_isDots 27 = .ok (.bipush 46, 2) := by decide +kernel
theorem dX3_isDots_29 : decode cX3_isDots 29 = .ok (.if_icmp .ne 19, 3) := by decide +kernel
theorem dX3_isDots_32 : decode cX3_isDots 32 = .ok (.aload_n 0, 1) := by decide +kernel
theorem dX3_isDots_33 : decode cX3_isDots 33 = .ok (.iload_n 1, 1) := by decide +kernel
theorem dX3_isDots_34 : decode cX3_isDots 34 = .ok (.iload_n 2, 1) := by decide +kernel
theorem dX3_isDots_35 : decode cX3_isDots 35 = .ok (.iadd, 1) := by decide +kernel
theorem dX3_isDots_36 : decode cX3_isDots 36 = .ok (.iconst 1, 1) := by decide +kernel
theorem dX3_isDots_37 : decode cX3_isDots 37 = .ok (.isub, 1) := by decide +kernel
theorem dX3_isDots_38 : decode cX3_isDots 38 = .ok (.baload, 1) := by decide +kernel
theorem dX3_isDots_39 : decode cX3_isDots 39 = .ok (.bipush 46, 2) := by decide +kernel
theorem dX3_isDots_41 : decode cX3_isDots 41 = .ok (.if_icmp .ne 7, 3) := by decide +kernel
theorem dX3_isDots_44 : decode cX3_isDots 44 = .ok (.iconst 1, 1) := by decide +kernel
theorem dX3_isDots_45 : decode cX3_isDots 45 = .ok (.goto 4, 3) := by decide +kernel
theorem dX3_isDots_48 : decode cX3_isDots 48 = .ok (.iconst 0, 1) := by decide +kernel
theorem dX3_isDots_49 : decode cX3_isDots 49 = .ok (.ireturn, 1) := by decide +kernel
def J_X3_isDots_22 (b0 fu : Nat)   (σ : tM) : Option ((Int32) × tM) := some (0, σ)
def J_X3_isDots_49 (b0 fu : Nat)  (s0 : Int32) (σ : tM) : Option ((Int32) × tM) := ckZ (s0) (some (s0, σ))
def J_X3_isDots_48 (b0 fu : Nat)   (σ : tM) : Option ((Int32) × tM) := J_X3_isDots_49 b0 fu   (0) (σ)
def m_X3_isDots (b0 fu : Nat) (p0 : Nat) (p1 : Int32) (p2 : Int32) (σ : tM) : Option ((Int32) × tM) := grw σ (if (p2) < (1) then J_X3_isDots_22 b0 fu    (σ) else if (2) < (p2) then J_X3_isDots_22 b0 fu    (σ) else if (p1) < (0) then J_X3_isDots_22 b0 fu    (σ) else ckR b0 (σ) (p0) 1 (fun n6 => if (p1) ≤ ((nI n6) - (p2)) then ckI (p1) (n6) (if (tI (σ) (p0) ((p1).toNatClampNeg)) = (46) then ckI (((p1) + (p2)) - (1)) (n6) (if (tI (σ) (p0) ((((p1) + (p2)) - (1)).toNatClampNeg)) = (46) then J_X3_isDots_49 b0 fu   (1) (σ) else J_X3_isDots_48 b0 fu    (σ)) else J_X3_isDots_48 b0 fu    (σ)) else J_X3_isDots_22 b0 fu    (σ)))
set_option maxRecDepth 100000 in
set_option maxHeartbeats 1000000 in
theorem j_X3_isDots_22 {p : Program} {l : Launch} {e : Env} {s : State} {m : MethodId} {args : Array Value} {below : List Frame} {meth : Method} {c : Code} {D : va_G} {aC : Nat → ClassId} {b0 fu : Nat} {σ0 τ : tM} {v : Int32}  (C : tCx p l s m args meth c yX3_isDots.cls cX3_isDots 3 (some .boolean) D aC b0 σ0) (htab : ∀ x ∈ c.exceptionTable.toList, False) (hin : meth.name = yX3_isDots.name)   {σ : tM} (hm : J_X3_isDots_22 b0 fu   σ = some (v, τ)) : tX p l e s m args below meth c 3 0 0 D aC b0 σ0 (.inl (some (.int v))) τ 22 [] [] σ := by
  unfold J_X3_isDots_22 at hm
  refine zx_iconst (v := 0) C dX3_isDots_22 (by decide) ?_
  obtain ⟨rfl, rfl⟩ := ret_e hm
  exact zx_zret C rfl (by decide) rfl rfl dX3_isDots_23
set_option maxRecDepth 100000 in
set_option maxHeartbeats 1000000 in
theorem j_X3_isDots_49 {p : Program} {l : Launch} {e : Env} {s : State} {m : MethodId} {args : Array Value} {below : List Frame} {meth : Method} {c : Code} {D : va_G} {aC : Nat → ClassId} {b0 fu : Nat} {σ0 τ : tM} {v : Int32}  (C : tCx p l s m args meth c yX3_isDots.cls cX3_isDots 3 (some .boolean) D aC b0 σ0) (htab : ∀ x ∈ c.exceptionTable.toList, False) (hin : meth.name = yX3_isDots.name)  {s0 : Int32} {σ : tM} (hm : J_X3_isDots_49 b0 fu  s0 σ = some (v, τ)) : tX p l e s m args below meth c 3 0 0 D aC b0 σ0 (.inl (some (.int v))) τ 49 [] [.int (s0)] σ := by
  unfold J_X3_isDots_49 at hm
  obtain ⟨h10, hm⟩ := ckZ_e hm
  obtain ⟨rfl, rfl⟩ := ret_e hm
  exact zx_zret C rfl h10 rfl rfl dX3_isDots_49
set_option maxRecDepth 100000 in
set_option maxHeartbeats 1000000 in
theorem j_X3_isDots_48 {p : Program} {l : Launch} {e : Env} {s : State} {m : MethodId} {args : Array Value} {below : List Frame} {meth : Method} {c : Code} {D : va_G} {aC : Nat → ClassId} {b0 fu : Nat} {σ0 τ : tM} {v : Int32}  (C : tCx p l s m args meth c yX3_isDots.cls cX3_isDots 3 (some .boolean) D aC b0 σ0) (htab : ∀ x ∈ c.exceptionTable.toList, False) (hin : meth.name = yX3_isDots.name)   {σ : tM} (hm : J_X3_isDots_48 b0 fu   σ = some (v, τ)) : tX p l e s m args below meth c 3 0 0 D aC b0 σ0 (.inl (some (.int v))) τ 48 [] [] σ := by
  unfold J_X3_isDots_48 at hm
  refine zx_iconst (v := 0) C dX3_isDots_48 (by decide) ?_
  exact zx_lv [] [] rfl (j_X3_isDots_49 C htab hin    hm)
set_option maxRecDepth 100000 in
set_option maxHeartbeats 1000000 in
theorem c_X3_isDots {l : Launch} {D : va_G} {aC : Nat → ClassId} {b0 fu : Nat} {p0 : Nat} {p1 : Int32} {p2 : Int32} {σ τ : tM} {v : Int32} (hm : m_X3_isDots b0 fu p0 p1 p2 σ = some (v, τ)) : tMt l D aC b0 yX3_isDots (Cond.code yX3_isDots cX3_isDots 3 (some .boolean)) 0 0 [.ref (p0), .int (p1), .int (p2)] σ (.inl (some (.int v))) τ := by
  unfold m_X3_isDots at hm
  obtain ⟨hg, hm⟩ := grw_e hm
  refine tMt_of (n := 0) rfl (Nat.le_of_ble_eq_true rfl) hg ?_
  intro p e s m below meth c C htab hin
  refine zx_lv [0, 1, 2] [(0, .ref (p0)), (1, .int (p1)), (2, .int (p2))] rfl ?_
  refine zx_iload_n C dX3_isDots_0 2 rfl ?_
  refine zx_iconst (v := 1) C dX3_isDots_1 (by decide) ?_
  refine zx_icmp_lt C 22 dX3_isDots_2 (by decide) (fun c1 => ?_) (fun c1 => ?_)
  · replace hm := ip_e hm c1
    exact zx_lv [] [] rfl (j_X3_isDots_22 C htab hin    hm)
  · replace hm := in_e hm c1
    refine zx_iload_n C dX3_isDots_5 2 rfl ?_
    refine zx_iconst (v := 2) C dX3_isDots_6 (by decide) ?_
    refine zx_icmp_gt C 22 dX3_isDots_7 (by decide) (fun c2 => ?_) (fun c2 => ?_)
    · replace hm := ip_e hm c2
      exact zx_lv [] [] rfl (j_X3_isDots_22 C htab hin    hm)
    · replace hm := in_e hm c2
      refine zx_iload_n C dX3_isDots_10 1 rfl ?_
      refine zx_if_lt C 22 dX3_isDots_11 (by decide) (fun c3 => ?_) (fun c3 => ?_)
      · replace hm := ip_e hm c3
        exact zx_lv [] [] rfl (j_X3_isDots_22 C htab hin    hm)
      · replace hm := in_e hm c3
        refine zx_iload_n C dX3_isDots_14 1 rfl ?_
        refine zx_aload_n C dX3_isDots_15 0 rfl ?_
        obtain ⟨n6, k4, i5, hm⟩ := ckR_e hm
        refine zx_alen C k4 (by decide) i5 dX3_isDots_16 ?_
        refine zx_iload_n C dX3_isDots_17 2 rfl ?_
        refine zx_isub C dX3_isDots_18 ?_
        refine zx_icmp_le C 24 dX3_isDots_19 (by decide) (fun c7 => ?_) (fun c7 => ?_)
        · replace hm := ip_e hm c7
          refine zx_aload_n C dX3_isDots_24 0 rfl ?_
          refine zx_iload_n C dX3_isDots_25 1 rfl ?_
          obtain ⟨h8, hm⟩ := ckI_e hm
          refine zx_bald C k4 i5 h8 dX3_isDots_26 ?_
          refine zx_bipush (v := 46) C dX3_isDots_27 (by decide) ?_
          refine zx_icmp_ne C 48 dX3_isDots_29 (by decide) (fun c9 => ?_) (fun c9 => ?_)
          · replace hm := in_e hm c9
            exact zx_lv [] [] rfl (j_X3_isDots_48 C htab hin    hm)
          · replace hm := ip_e hm c9
            refine zx_aload_n C dX3_isDots_32 0 rfl ?_
            refine zx_iload_n C dX3_isDots_33 1 rfl ?_
            refine zx_iload_n C dX3_isDots_34 2 rfl ?_
            refine zx_iadd C dX3_isDots_35 ?_
            refine zx_iconst (v := 1) C dX3_isDots_36 (by decide) ?_
            refine zx_isub C dX3_isDots_37 ?_
            obtain ⟨h11, hm⟩ := ckI_e hm
            refine zx_bald C k4 i5 h11 dX3_isDots_38 ?_
            refine zx_bipush (v := 46) C dX3_isDots_39 (by decide) ?_
            refine zx_icmp_ne C 48 dX3_isDots_41 (by decide) (fun c12 => ?_) (fun c12 => ?_)
            · replace hm := in_e hm c12
              exact zx_lv [] [] rfl (j_X3_isDots_48 C htab hin    hm)
            · replace hm := ip_e hm c12
              refine zx_iconst (v := 1) C dX3_isDots_44 (by decide) ?_
              refine zx_goto C 49 dX3_isDots_45 (by decide) ?_
              exact zx_lv [] [] rfl (j_X3_isDots_49 C htab hin    hm)
        · replace hm := in_e hm c7
          exact zx_lv [] [] rfl (j_X3_isDots_22 C htab hin    hm)
abbrev cX4_init : ByteArray := prog_6_method_1_code
def yX4_init : MethodName := ⟨"SyncTree$Row", "<init>", "()V"⟩
theorem Y_X4_init : tY yX4_init cX4_init 1 none 0 := ⟨W_2_187, W_1_13, ⟨by decide +kernel, by decide +kernel⟩, by decide +kernel⟩
theorem dX4_init_0 : decode cX4_init 0 = .ok (.aload_n 0, 1) := by decide +kernel
theorem dX4_init_1 : decode cX4_init 1 = .ok (.invokespecial 3, 3) := by decide +kernel
theorem dX4_init_4 : decode cX4_init 4 = .ok (.aload_n 0, 1) := by decide +kernel
theorem dX4_init_5 : decode cX4_init 5 = .ok (.bipush 32, 2) := by decide +kernel
theorem dX4_init_7 : decode cX4_init 7 = .ok (.newarray .long, 2) := by decide +kernel
theorem dX4_init_9 : decode cX4_init 9 = .ok (.putfield 9, 3) := by decide +kernel
theorem dX4_init_12 : decode cX4_init 12 = .ok (.return_, 1) := by decide +kernel
def m_X4_init (b0 fu : Nat) (a0 : Nat) (σ : tM) : Option ((Unit) × tM) := grw σ (ltb (sN (σ) (b0 + tn σ) (.inr (3, ((32 : Int32)).toNatClampNeg)) (((32 : Int32)).toNatClampNeg)) (fun ρ1 => ckO b0 (ρ1) (a0) 4 (some ((), sA (ρ1) (a0) 0 (some (b0 + tn σ))))))
set_option maxRecDepth 100000 in
set_option maxHeartbeats 1000000 in
theorem c_X4_init {l : Launch} {D : va_G} {aC : Nat → ClassId} {b0 fu : Nat} {a0 : Nat} {σ τ : tM} {v : Unit} (hm : m_X4_init b0 fu a0 σ = some (v, τ)) : tMt l D aC b0 yX4_init (Cond.code yX4_init cX4_init 1 none) 1 20 [.ref (a0)] σ (.inl none) τ := by
  unfold m_X4_init at hm
  obtain ⟨hg, hm⟩ := grw_e hm
  refine tMt_of (n := 0) rfl (Nat.le_of_ble_eq_true rfl) hg ?_
  intro p e s m below meth c C htab hin
  refine zx_lv [0] [(0, .ref (a0))] rfl ?_
  refine zx_aload_n C dX4_init_0 0 rfl ?_
  refine zx_obj C W_2_188 W_1_26 W_1_27 (by decide) (by decide) (Nat.le_of_ble_eq_true rfl) dX4_init_1 ?_
  refine zx_aload_n C dX4_init_4 0 rfl ?_
  refine zx_bipush (v := 32) C dX4_init_5 (by decide) ?_
  refine zx_newJ C W_1_155 (by decide) (by decide) dX4_init_7 ?_
  refine zx_mem (fun ρ1 hρ1 => ?_)
  replace hm := ltb_e hm hρ1
  have k2 : tk ρ1 (b0 + tn σ) = .inr (3, ((32 : Int32)).toNatClampNeg) := by rw [hρ1]; exact sN_k _ _ _ _
  have i3 : tIn b0 ρ1 (b0 + tn σ) := by rw [hρ1]; exact sN_i _ _ _ _
  obtain ⟨k4, i5, hm⟩ := ckO_e hm
  refine zx_putF (j := 0) (ρ := sA (ρ1) (a0) 0 (some (b0 + tn σ))) C hin tC_4 k4 i5 (by decide) W_2_189 rfl rfl rfl rfl (sA_ok (fun _ => rfl)) dX4_init_9 ?_
  obtain ⟨rfl, rfl⟩ := ret_e hm
  exact zx_vret C rfl rfl rfl dX4_init_12
abbrev cX5_init : ByteArray := prog_7_method_1_code
def yX5_init : MethodName := ⟨"SyncTree$Space", "<init>", "()V"⟩
theorem Y_X5_init : tY yX5_init cX5_init 1 none 0 := ⟨W_1_91, W_1_3, ⟨by decide +kernel, by decide +kernel⟩, by decide +kernel⟩
theorem dX5_init_0 : decode cX5_init 0 = .ok (.aload_n 0, 1) := by decide +kernel
theorem dX5_init_1 : decode cX5_init 1 = .ok (.invokespecial 3, 3) := by decide +kernel
theorem dX5_init_4 : decode cX5_init 4 = .ok (.aload_n 0, 1) := by decide +kernel
theorem dX5_init_5 : decode cX5_init 5 = .ok (.ldc 9, 2) := by decide +kernel
theorem dX5_init_7 : decode cX5_init 7 = .ok (.newarray .long, 2) := by decide +kernel
theorem dX5_init_9 : decode cX5_init 9 = .ok (.putfield 10, 3) := by decide +kernel
theorem dX5_init_12 : decode cX5_init 12 = .ok (.aload_n 0, 1) := by decide +kernel
theorem dX5_init_13 : decode cX5_init 13 = .ok (.sipush 2034, 3) := by decide +kernel
theorem dX5_init_16 : decode cX5_init 16 = .ok (.newarray .int, 2) := by decide +kernel
theorem dX5_init_18 : decode cX5_init 18 = .ok (.putfield 16, 3) := by decide +kernel
theorem dX5_init_21 : decode cX5_init 21 = .ok (.aload_n 0, 1) := by decide +kernel
theorem dX5_init_22 : decode cX5_init 22 = .ok (.sipush 2034, 3) := by decide +kernel
theorem dX5_init_25 : decode cX5_init 25 = .ok (.newarray .int, 2) := by decide +kernel
theorem dX5_init_27 : decode cX5_init 27 = .ok (.putfield 20, 3) := by decide +kernel
theorem dX5_init_30 : decode cX5_init 30 = .ok (.aload_n 0, 1) := by decide +kernel
theorem dX5_init_31 : decode cX5_init 31 = .ok (.sipush 2034, 3) := by decide +kernel
theorem dX5_init_34 : decode cX5_init 34 = .ok (.newarray .byte, 2) := by decide +kernel
theorem dX5_init_36 : decode cX5_init 36 = .ok (.putfield 23, 3) := by decide +kernel
theorem dX5_init_39 : decode cX5_init 39 = .ok (.aload_n 0, 1) := by decide +kernel
theorem dX5_init_40 : decode cX5_init 40 = .ok (.sipush 2034, 3) := by decide +kernel
theorem dX5_init_43 : decode cX5_init 43 = .ok (.newarray .byte, 2) := by decide +kernel
theorem dX5_init_45 : decode cX5_init 45 = .ok (.putfield 27, 3) := by decide +kernel
theorem dX5_init_48 : decode cX5_init 48 = .ok (.aload_n 0, 1) := by decide +kernel
theorem dX5_init_49 : decode cX5_init 49 = .ok (.sipush 2034, 3) := by decide +kernel
theorem dX5_init_52 : decode cX5_init 52 = .ok (.newarray .byte, 2) := by decide +kernel
theorem dX5_init_54 : decode cX5_init 54 = .ok (.putfield 30, 3) := by decide +kernel
theorem dX5_init_57 : decode cX5_init 57 = .ok (.aload_n 0, 1) := by decide +kernel
theorem dX5_init_58 : decode cX5_init 58 = .ok (.sipush 2034, 3) := by decide +kernel
theorem dX5_init_61 : decode cX5_init 61 = .ok (.newarray .byte, 2) := by decide +kernel
theorem dX5_init_63 : decode cX5_init 63 = .ok (.putfield 33, 3) := by decide +kernel
theorem dX5_init_66 : decode cX5_init 66 = .ok (.return_, 1) := by decide +kernel
def m_X5_init (b0 fu : Nat) (a0 : Nat) (σ : tM) : Option ((Unit) × tM) := grw σ (ltb (sN (σ) (b0 + tn σ) (.inr (3, ((65536 : Int32)).toNatClampNeg)) (((65536 : Int32)).toNatClampNeg)) (fun ρ1 => ckO b0 (ρ1) (a0) 5 (ltb (sN (sA (ρ1) (a0) 0 (some (b0 + tn σ))) (b0 + tn ρ1) (.inr (0, ((2034 : Int32)).toNatClampNeg)) (((2034 : Int32)).toNatClampNeg)) (fun ρ6 => ckO b0 (ρ6) (a0) 5 (ltb (sN (sA (ρ6) (a0) 1 (some (b0 + tn ρ1))) (b0 + tn ρ6) (.inr (0, ((2034 : Int32)).toNatClampNeg)) (((2034 : Int32)).toNatClampNeg)) (fun ρ11 => ckO b0 (ρ11) (a0) 5 (ltb (sN (sA (ρ11) (a0) 2 (some (b0 + tn ρ6))) (b0 + tn ρ11) (.inr (1, ((2034 : Int32)).toNatClampNeg)) (((2034 : Int32)).toNatClampNeg)) (fun ρ16 => ckO b0 (ρ16) (a0) 5 (ltb (sN (sA (ρ16) (a0) 3 (some (b0 + tn ρ11))) (b0 + tn ρ16) (.inr (1, ((2034 : Int32)).toNatClampNeg)) (((2034 : Int32)).toNatClampNeg)) (fun ρ21 => ckO b0 (ρ21) (a0) 5 (ltb (sN (sA (ρ21) (a0) 4 (some (b0 + tn ρ16))) (b0 + tn ρ21) (.inr (1, ((2034 : Int32)).toNatClampNeg)) (((2034 : Int32)).toNatClampNeg)) (fun ρ26 => ckO b0 (ρ26) (a0) 5 (ltb (sN (sA (ρ26) (a0) 5 (some (b0 + tn ρ21))) (b0 + tn ρ26) (.inr (1, ((2034 : Int32)).toNatClampNeg)) (((2034 : Int32)).toNatClampNeg)) (fun ρ31 => ckO b0 (ρ31) (a0) 5 (some ((), sA (ρ31) (a0) 6 (some (b0 + tn ρ26))))))))))))))))))
set_option maxRecDepth 100000 in
set_option maxHeartbeats 1000000 in
theorem c_X5_init {l : Launch} {D : va_G} {aC : Nat → ClassId} {b0 fu : Nat} {a0 : Nat} {σ τ : tM} {v : Unit} (hm : m_X5_init b0 fu a0 σ = some (v, τ)) : tMt l D aC b0 yX5_init (Cond.code yX5_init cX5_init 1 none) 1 20 [.ref (a0)] σ (.inl none) τ := by
  unfold m_X5_init at hm
  obtain ⟨hg, hm⟩ := grw_e hm
  refine tMt_of (n := 0) rfl (Nat.le_of_ble_eq_true rfl) hg ?_
  intro p e s m below meth c C htab hin
  refine zx_lv [0] [(0, .ref (a0))] rfl ?_
  refine zx_aload_n C dX5_init_0 0 rfl ?_
  refine zx_obj C W_1_92 W_1_26 W_1_27 (by decide) (by decide) (Nat.le_of_ble_eq_true rfl) dX5_init_1 ?_
  refine zx_aload_n C dX5_init_4 0 rfl ?_
  refine zx_ldc (v := 65536) C W_1_93 dX5_init_5 ?_
  refine zx_newJ C W_1_155 (by decide) (by decide) dX5_init_7 ?_
  refine zx_mem (fun ρ1 hρ1 => ?_)
  replace hm := ltb_e hm hρ1
  have k2 : tk ρ1 (b0 + tn σ) = .inr (3, ((65536 : Int32)).toNatClampNeg) := by rw [hρ1]; exact sN_k _ _ _ _
  have i3 : tIn b0 ρ1 (b0 + tn σ) := by rw [hρ1]; exact sN_i _ _ _ _
  obtain ⟨k4, i5, hm⟩ := ckO_e hm
  refine zx_putF (j := 0) (ρ := sA (ρ1) (a0) 0 (some (b0 + tn σ))) C hin tC_5 k4 i5 (by decide) W_1_94 rfl rfl rfl rfl (sA_ok (fun _ => rfl)) dX5_init_9 ?_
  refine zx_aload_n C dX5_init_12 0 rfl ?_
  refine zx_sipush (v := 2034) C dX5_init_13 (by decide) ?_
  refine zx_newI C W_1_85 (by decide) (by decide) dX5_init_16 ?_
  refine zx_mem (fun ρ6 hρ6 => ?_)
  replace hm := ltb_e hm hρ6
  have k7 : tk ρ6 (b0 + tn ρ1) = .inr (0, ((2034 : Int32)).toNatClampNeg) := by rw [hρ6]; exact sN_k _ _ _ _
  have i8 : tIn b0 ρ6 (b0 + tn ρ1) := by rw [hρ6]; exact sN_i _ _ _ _
  obtain ⟨k9, i10, hm⟩ := ckO_e hm
  refine zx_putF (j := 1) (ρ := sA (ρ6) (a0) 1 (some (b0 + tn ρ1))) C hin tC_5 k9 i10 (by decide) W_1_97 rfl rfl rfl rfl (sA_ok (fun _ => rfl)) dX5_init_18 ?_
  refine zx_aload_n C dX5_init_21 0 rfl ?_
  refine zx_sipush (v := 2034) C dX5_init_22 (by decide) ?_
  refine zx_newI C W_1_85 (by decide) (by decide) dX5_init_25 ?_
  refine zx_mem (fun ρ11 hρ11 => ?_)
  replace hm := ltb_e hm hρ11
  have k12 : tk ρ11 (b0 + tn ρ6) = .inr (0, ((2034 : Int32)).toNatClampNeg) := by rw [hρ11]; exact sN_k _ _ _ _
  have i13 : tIn b0 ρ11 (b0 + tn ρ6) := by rw [hρ11]; exact sN_i _ _ _ _
  obtain ⟨k14, i15, hm⟩ := ckO_e hm
  refine zx_putF (j := 2) (ρ := sA (ρ11) (a0) 2 (some (b0 + tn ρ6))) C hin tC_5 k14 i15 (by decide) W_1_98 rfl rfl rfl rfl (sA_ok (fun _ => rfl)) dX5_init_27 ?_
  refine zx_aload_n C dX5_init_30 0 rfl ?_
  refine zx_sipush (v := 2034) C dX5_init_31 (by decide) ?_
  refine zx_newB C W_1_156 (by decide) (by decide) dX5_init_34 ?_
  refine zx_mem (fun ρ16 hρ16 => ?_)
  replace hm := ltb_e hm hρ16
  have k17 : tk ρ16 (b0 + tn ρ11) = .inr (1, ((2034 : Int32)).toNatClampNeg) := by rw [hρ16]; exact sN_k _ _ _ _
  have i18 : tIn b0 ρ16 (b0 + tn ρ11) := by rw [hρ16]; exact sN_i _ _ _ _
  obtain ⟨k19, i20, hm⟩ := ckO_e hm
  refine zx_putF (j := 3) (ρ := sA (ρ16) (a0) 3 (some (b0 + tn ρ11))) C hin tC_5 k19 i20 (by decide) W_1_99 rfl rfl rfl rfl (sA_ok (fun _ => rfl)) dX5_init_36 ?_
  refine zx_aload_n C dX5_init_39 0 rfl ?_
  refine zx_sipush (v := 2034) C dX5_init_40 (by decide) ?_
  refine zx_newB C W_1_156 (by decide) (by decide) dX5_init_43 ?_
  refine zx_mem (fun ρ21 hρ21 => ?_)
  replace hm := ltb_e hm hρ21
  have k22 : tk ρ21 (b0 + tn ρ16) = .inr (1, ((2034 : Int32)).toNatClampNeg) := by rw [hρ21]; exact sN_k _ _ _ _
  have i23 : tIn b0 ρ21 (b0 + tn ρ16) := by rw [hρ21]; exact sN_i _ _ _ _
  obtain ⟨k24, i25, hm⟩ := ckO_e hm
  refine zx_putF (j := 4) (ρ := sA (ρ21) (a0) 4 (some (b0 + tn ρ16))) C hin tC_5 k24 i25 (by decide) W_1_100 rfl rfl rfl rfl (sA_ok (fun _ => rfl)) dX5_init_45 ?_
  refine zx_aload_n C dX5_init_48 0 rfl ?_
  refine zx_sipush (v := 2034) C dX5_init_49 (by decide) ?_
  refine zx_newB C W_1_156 (by decide) (by decide) dX5_init_52 ?_
  refine zx_mem (fun ρ26 hρ26 => ?_)
  replace hm := ltb_e hm hρ26
  have k27 : tk ρ26 (b0 + tn ρ21) = .inr (1, ((2034 : Int32)).toNatClampNeg) := by rw [hρ26]; exact sN_k _ _ _ _
  have i28 : tIn b0 ρ26 (b0 + tn ρ21) := by rw [hρ26]; exact sN_i _ _ _ _
  obtain ⟨k29, i30, hm⟩ := ckO_e hm
  refine zx_putF (j := 5) (ρ := sA (ρ26) (a0) 5 (some (b0 + tn ρ21))) C hin tC_5 k29 i30 (by decide) W_1_101 rfl rfl rfl rfl (sA_ok (fun _ => rfl)) dX5_init_54 ?_
  refine zx_aload_n C dX5_init_57 0 rfl ?_
  refine zx_sipush (v := 2034) C dX5_init_58 (by decide) ?_
  refine zx_newB C W_1_156 (by decide) (by decide) dX5_init_61 ?_
  refine zx_mem (fun ρ31 hρ31 => ?_)
  replace hm := ltb_e hm hρ31
  have k32 : tk ρ31 (b0 + tn ρ26) = .inr (1, ((2034 : Int32)).toNatClampNeg) := by rw [hρ31]; exact sN_k _ _ _ _
  have i33 : tIn b0 ρ31 (b0 + tn ρ26) := by rw [hρ31]; exact sN_i _ _ _ _
  obtain ⟨k34, i35, hm⟩ := ckO_e hm
  refine zx_putF (j := 6) (ρ := sA (ρ31) (a0) 6 (some (b0 + tn ρ26))) C hin tC_5 k34 i35 (by decide) W_1_102 rfl rfl rfl rfl (sA_ok (fun _ => rfl)) dX5_init_63 ?_
  obtain ⟨rfl, rfl⟩ := ret_e hm
  exact zx_vret C rfl rfl rfl dX5_init_66
abbrev cX5_emptyGroup : ByteArray := prog_7_method_4_code
def yX5_emptyGroup : MethodName := ⟨"SyncTree$Space", "emptyGroup", "(I)V"⟩
theorem Y_X5_emptyGroup : tY yX5_emptyGroup cX5_emptyGroup 3 none 1 := ⟨W_2_126, W_1_3, ⟨by decide +kernel, by decide +kernel⟩, by decide +kernel⟩
theorem dX5_emptyGroup_0 : decode cX5_emptyGroup 0 = .ok (.iconst 0, 1) := by decide +kernel
theorem dX5_emptyGroup_1 : decode cX5_emptyGroup 1 = .ok (.istore_n 2, 1) := by decide +kernel
theorem dX5_emptyGroup_2 : decode cX5_emptyGroup 2 = .ok (.iload_n 2, 1) := by decide +kernel
theorem dX5_emptyGroup_3 : decode cX5_emptyGroup 3 = .ok (.aload_n 0, 1) := by decide +kernel
theorem dX5_emptyGroup_4 : decode cX5_emptyGroup 4 = .ok (.getfield 48, 3) := by decide +kernel
theorem dX5_emptyGroup_7 : decode cX5_emptyGroup 7 = .ok (.if_icmp .ge 65, 3) := by decide +kernel
theorem dX5_emptyGroup_10 : decode cX5_emptyGroup 10 = .ok (.aload_n 0, 1) := by decide +kernel
theorem dX5_emptyGroup_11 : decode cX5_emptyGroup 11 = .ok (.getfield 78, 3) := by decide +kernel
theorem dX5_emptyGroup_14 : decode cX5_emptyGroup 14 = .ok (.aload_n 0, 1) := by decide +kernel
theorem dX5_emptyGroup_15 : decode cX5_emptyGroup 15 = .ok (.getfield 81, 3) := by decide +kernel
theorem dX5_emptyGroup_18 : decode cX5_emptyGroup 18 = .ok (.iadd, 1) := by decide +kernel
theorem dX5_emptyGroup_19 : decode cX5_emptyGroup 19 = .ok (.ifCond .le 53, 3) := by decide +kernel
theorem dX5_emptyGroup_22 : decode cX5_emptyGroup 22 = .ok (.aload_n 0, 1) := by decide +kernel
theorem dX5_emptyGroup_23 : decode cX5_emptyGroup 23 = .ok (.dup, 1) := by decide +kernel
theorem dX5_emptyGroup_24 : decode cX5_emptyGroup 24 = .ok (.getfield 78, 3) := by decide +kernel
theorem dX5_emptyGroup_27 : decode cX5_emptyGroup 27 = .ok (.aload_n 0, 1) := by decide +kernel
theorem dX5_emptyGroup_28 : decode cX5_emptyGroup 28 = .ok (.getfield 27, 3) := by decide +kernel
theorem dX5_emptyGroup_31 : decode cX5_emptyGroup 31 = .ok (.iload_n 2, 1) := by decide +kernel
theorem dX5_emptyGroup_32 : decode cX5_emptyGroup 32 = .ok (.baload, 1) := by decide +kernel
theorem dX5_emptyGroup_33 : decode cX5_emptyGroup 33 = .ok (.isub, 1) := by decide +kernel
theorem dX5_emptyGroup_34 : decode cX5_emptyGroup 34 = .ok (.putfield 78, 3) := by decide +kernel
theorem dX5_emptyGroup_37 : decode cX5_emptyGroup 37 = .ok (.aload_n 0, 1) := by decide +kernel
theorem dX5_emptyGroup_38 : decode cX5_emptyGroup 38 = .ok (.dup, 1) := by decide +kernel
theorem dX5_emptyGroup_39 : decode cX5_emptyGroup 39 = .ok (.getfield 81, 3) := by decide +kernel
theorem dX5_emptyGroup_42 : decode cX5_emptyGroup 42 = .ok (.aload_n 0, 1) := by decide +kernel
theorem dX5_emptyGroup_43 : decode cX5_emptyGroup 43 = .ok (.getfield 30, 3) := by decide +kernel
theorem dX5_emptyGroup_46 : decode cX5_emptyGroup 46 = .ok (.iload_n 2, 1) := by decide +kernel
theorem dX5_emptyGroup_47 : decode cX5_emptyGroup 47 = .ok (.baload, 1) := by decide +kernel
theorem dX5_emptyGroup_48 : decode cX5_emptyGroup 48 = .ok (.isub, 1) := by decide +kernel
theorem dX5_emptyGroup_49 : decode cX5_emptyGroup 49 = .ok (.putfield 81, 3) := by decide +kernel
theorem dX5_emptyGroup_52 : decode cX5_emptyGroup 52 = .ok (.aload_n 0, 1) := by decide +kernel
theorem dX5_emptyGroup_53 : decode cX5_emptyGroup 53 = .ok (.getfield 27, 3) := by decide +kernel
theorem dX5_emptyGroup_56 : decode cX5_emptyGroup 56 = .ok (.iload_n 2, 1) := by decide +kernel
theorem dX5_emptyGroup_57 : decode cX5_emptyGroup 57 = .ok (.iconst 0, 1) := by decide +kernel
theorem dX5_emptyGroup_58 : decode cX5_emptyGroup 58 = .ok (.bastore, 1) := by decide +kernel
theorem dX5_emptyGroup_59 : decode cX5_emptyGroup 59 = .ok (.aload_n 0, 1) := by decide +kernel
theorem dX5_emptyGroup_60 : decode cX5_emptyGroup 60 = .ok (.getfield 30, 3) := by decide +kernel
theorem dX5_emptyGroup_63 : decode cX5_emptyGroup 63 = .ok (.iload_n 2, 1) := by decide +kernel
theorem dX5_emptyGroup_64 : decode cX5_emptyGroup 64 = .ok (.iconst 0, 1) := by decide +kernel
theorem dX5_emptyGroup_65 : decode cX5_emptyGroup 65 = .ok (.bastore, 1) := by decide +kernel
theorem dX5_emptyGroup_66 : decode cX5_emptyGroup 66 = .ok (.iinc 2 1, 3) := by decide +kernel
theorem dX5_emptyGroup_69 : decode cX5_emptyGroup 69 = .ok (.goto (-67), 3) := by decide +kernel
theorem dX5_emptyGroup_72 : decode cX5_emptyGroup 72 = .ok (.aload_n 0, 1) := by decide +kernel
theorem dX5_emptyGroup_73 : decode cX5_emptyGroup 73 = .ok (.iload_n 1, 1) := by decide +kernel
theorem dX5_emptyGroup_74 : decode cX5_emptyGroup 74 = .ok (.putfield 72, 3) := by decide +kernel
theorem dX5_emptyGroup_77 : decode cX5_emptyGroup 77 = .ok (.return_, 1) := by decide +kernel
def J_X5_emptyGroup_72 (b0 fu : Nat)  (x0 : Nat) (x1 : Int32) (σ : tM) : Option ((Unit) × tM) := ckO b0 (σ) (x0) 5 (some ((), sI (σ) (x0) 16 (x1)))
def L_X5_emptyGroup_2 (b0 fu : Nat)  : Nat → Nat → Int32 → Int32 → tM → Option ((Unit) × tM)
  | 0, _, _, _, _ => none
  | n + 1, x0, x1, x2, σ => ltb (L_X5_emptyGroup_2 b0 fu  n) (fun rc2 => ckO b0 (σ) (x0) 5 (if (tI (σ) (x0) 7) ≤ (x2) then J_X5_emptyGroup_72 b0 fu   (x0) (x1) (σ) else if ((tI (σ) (x0) 11) + (tI (σ) (x0) 12)) ≤ (0) then J_X5_emptyGroup_72 b0 fu   (x0) (x1) (σ) else osm (tA (σ) (x0) 4) (fun a7 => ckR b0 (σ) (a7) 1 (fun n11 => ckI (x2) (n11) (osm (tA (sI (σ) (x0) 11 ((tI (σ) (x0) 11) - (tI (σ) (a7) ((x2).toNatClampNeg)))) (x0) 5) (fun a13 => ckR b0 (sI (σ) (x0) 11 ((tI (σ) (x0) 11) - (tI (σ) (a7) ((x2).toNatClampNeg)))) (a13) 1 (fun n17 => ckI (x2) (n17) (ltb (sI (sI (σ) (x0) 11 ((tI (σ) (x0) 11) - (tI (σ) (a7) ((x2).toNatClampNeg)))) (x0) 12 ((tI (sI (σ) (x0) 11 ((tI (σ) (x0) 11) - (tI (σ) (a7) ((x2).toNatClampNeg)))) (x0) 12) - (tI (sI (σ) (x0) 11 ((tI (σ) (x0) 11) - (tI (σ) (a7) ((x2).toNatClampNeg)))) (a13) ((x2).toNatClampNeg)))) (fun ρ19 => osm (tA (ρ19) (x0) 4) (fun a26 => ckR b0 (ρ19) (a26) 1 (fun n30 => ckI (x2) (n30) (osm (tA (sI (ρ19) (a26) ((x2).toNatClampNeg) (vp_nar .byte ((0 : Int32)))) (x0) 5) (fun a32 => ckR b0 (sI (ρ19) (a26) ((x2).toNatClampNeg) (vp_nar .byte ((0 : Int32)))) (a32) 1 (fun n36 => ckI (x2) (n36) (ltb ((x2) + Int32.ofInt 1) (fun y38 => rc2 (x0) (x1) (y38) (sI (sI (ρ19) (a26) ((x2).toNatClampNeg) (vp_nar .byte ((0 : Int32)))) (a32) ((x2).toNatClampNeg) (vp_nar .byte ((0 : Int32))))))))))))))))))))
def m_X5_emptyGroup (b0 fu : Nat) (a0 : Nat) (p0 : Int32) (σ : tM) : Option ((Unit) × tM) := grw σ (L_X5_emptyGroup_2 b0 fu  (fu) (a0) (p0) (0) (σ))
set_option maxRecDepth 100000 in
set_option maxHeartbeats 1000000 in
theorem j_X5_emptyGroup_72 {p : Program} {l : Launch} {e : Env} {s : State} {m : MethodId} {args : Array Value} {below : List Frame} {meth : Method} {c : Code} {D : va_G} {aC : Nat → ClassId} {b0 fu : Nat} {σ0 τ : tM} {v : Unit}  (C : tCx p l s m args meth c yX5_emptyGroup.cls cX5_emptyGroup 3 none D aC b0 σ0) (htab : ∀ x ∈ c.exceptionTable.toList, False) (hin : meth.name = yX5_emptyGroup.name)  {x0 : Nat} {x1 : Int32} {σ : tM} (hm : J_X5_emptyGroup_72 b0 fu  x0 x1 σ = some (v, τ)) : tX p l e s m args below meth c 3 0 0 D aC b0 σ0 (.inl none) τ 72 [(0, .ref (x0)), (1, .int (x1))] [] σ := by
  unfold J_X5_emptyGroup_72 at hm
  refine zx_aload_n C dX5_emptyGroup_72 0 rfl ?_
  refine zx_iload_n C dX5_emptyGroup_73 1 rfl ?_
  obtain ⟨k4, i5, hm⟩ := ckO_e hm
  refine zx_put (j := 16) (ρ := sI (σ) (x0) 16 (x1)) C tC_5 k4 i5 ⟨by decide, Or.inl W_1_119⟩ rfl rfl rfl (sI_ok (fun _ => rfl)) dX5_emptyGroup_74 ?_
  obtain ⟨rfl, rfl⟩ := ret_e hm
  exact zx_vret C rfl rfl rfl dX5_emptyGroup_77
set_option maxRecDepth 100000 in
set_option maxHeartbeats 1000000 in
theorem l_X5_emptyGroup_2 {p : Program} {l : Launch} {e : Env} {s : State} {m : MethodId} {args : Array Value} {below : List Frame} {meth : Method} {c : Code} {D : va_G} {aC : Nat → ClassId} {b0 fu : Nat} {σ0 τ : tM} {v : Unit}  (C : tCx p l s m args meth c yX5_emptyGroup.cls cX5_emptyGroup 3 none D aC b0 σ0) (htab : ∀ x ∈ c.exceptionTable.toList, False) (hin : meth.name = yX5_emptyGroup.name)  : ∀ (n : Nat) (x0 : Nat) (x1 : Int32) (x2 : Int32) (σ : tM), L_X5_emptyGroup_2 b0 fu  n x0 x1 x2 σ = some (v, τ) → tX p l e s m args below meth c 3 0 0 D aC b0 σ0 (.inl none) τ 2 [(0, .ref (x0)), (1, .int (x1)), (2, .int (x2))] [] σ := by
  intro n
  induction n with
  | zero => intro x0 x1 x2 σ hm; unfold L_X5_emptyGroup_2 at hm; cases hm
  | succ n ih =>
    intro x0 x1 x2 σ hm
    unfold L_X5_emptyGroup_2 at hm
    obtain ⟨rc2, hrc⟩ : ∃ z, z = L_X5_emptyGroup_2 b0 fu  n := ⟨_, rfl⟩
    replace hm := ltb_e hm hrc
    rw [← hrc] at ih
    have hrc2 := ih
    clear ih hrc
    refine zx_iload_n C dX5_emptyGroup_2 2 rfl ?_
    refine zx_aload_n C dX5_emptyGroup_3 0 rfl ?_
    obtain ⟨k1, i2, hm⟩ := ckO_e hm
    refine zx_get (j := 7) C tC_5 k1 i2 ⟨by decide, Or.inl W_1_104⟩ dX5_emptyGroup_4 (.int (tI (σ) (x0) 7)) rfl ?_
    refine zx_icmp_ge C 72 dX5_emptyGroup_7 (by decide) (fun c3 => ?_) (fun c3 => ?_)
    · replace hm := ip_e hm c3
      exact zx_lv [0, 1] [(0, .ref (x0)), (1, .int (x1))] rfl (j_X5_emptyGroup_72 C htab hin    hm)
    · replace hm := in_e hm c3
      refine zx_aload_n C dX5_emptyGroup_10 0 rfl ?_
      refine zx_get (j := 11) C tC_5 k1 i2 ⟨by decide, Or.inl W_1_111⟩ dX5_emptyGroup_11 (.int (tI (σ) (x0) 11)) rfl ?_
      refine zx_aload_n C dX5_emptyGroup_14 0 rfl ?_
      refine zx_get (j := 12) C tC_5 k1 i2 ⟨by decide, Or.inl W_1_113⟩ dX5_emptyGroup_15 (.int (tI (σ) (x0) 12)) rfl ?_
      refine zx_iadd C dX5_emptyGroup_18 ?_
      refine zx_if_le C 72 dX5_emptyGroup_19 (by decide) (fun c6 => ?_) (fun c6 => ?_)
      · replace hm := ip_e hm c6
        exact zx_lv [0, 1] [(0, .ref (x0)), (1, .int (x1))] rfl (j_X5_emptyGroup_72 C htab hin    hm)
      · replace hm := in_e hm c6
        refine zx_aload_n C dX5_emptyGroup_22 0 rfl ?_
        refine zx_dup C dX5_emptyGroup_23 rfl ?_
        refine zx_get (j := 11) C tC_5 k1 i2 ⟨by decide, Or.inl W_1_111⟩ dX5_emptyGroup_24 (.int (tI (σ) (x0) 11)) rfl ?_
        refine zx_aload_n C dX5_emptyGroup_27 0 rfl ?_
        obtain ⟨a7, h8, hm⟩ := osm_e hm
        refine zx_get (j := 4) C tC_5 k1 i2 ⟨by decide, Or.inl W_1_100⟩ dX5_emptyGroup_28 (.ref a7) (rf_s h8) ?_
        refine zx_iload_n C dX5_emptyGroup_31 2 rfl ?_
        obtain ⟨n11, k9, i10, hm⟩ := ckR_e hm
        obtain ⟨h12, hm⟩ := ckI_e hm
        refine zx_bald C k9 i10 h12 dX5_emptyGroup_32 ?_
        refine zx_isub C dX5_emptyGroup_33 ?_
        refine zx_put (j := 11) (ρ := sI (σ) (x0) 11 ((tI (σ) (x0) 11) - (tI (σ) (a7) ((x2).toNatClampNeg)))) C tC_5 k1 i2 ⟨by decide, Or.inl W_1_111⟩ rfl rfl rfl (sI_ok (fun _ => rfl)) dX5_emptyGroup_34 ?_
        refine zx_aload_n C dX5_emptyGroup_37 0 rfl ?_
        refine zx_dup C dX5_emptyGroup_38 rfl ?_
        refine zx_get (j := 12) C tC_5 k1 i2 ⟨by decide, Or.inl W_1_113⟩ dX5_emptyGroup_39 (.int (tI (sI (σ) (x0) 11 ((tI (σ) (x0) 11) - (tI (σ) (a7) ((x2).toNatClampNeg)))) (x0) 12)) rfl ?_
        refine zx_aload_n C dX5_emptyGroup_42 0 rfl ?_
        obtain ⟨a13, h14, hm⟩ := osm_e hm
        refine zx_get (j := 5) C tC_5 k1 i2 ⟨by decide, Or.inl W_1_101⟩ dX5_emptyGroup_43 (.ref a13) (rf_s h14) ?_
        refine zx_iload_n C dX5_emptyGroup_46 2 rfl ?_
        obtain ⟨n17, k15, i16, hm⟩ := ckR_e hm
        obtain ⟨h18, hm⟩ := ckI_e hm
        refine zx_bald C k15 i16 h18 dX5_emptyGroup_47 ?_
        refine zx_isub C dX5_emptyGroup_48 ?_
        refine zx_put (j := 12) (ρ := sI (sI (σ) (x0) 11 ((tI (σ) (x0) 11) - (tI (σ) (a7) ((x2).toNatClampNeg)))) (x0) 12 ((tI (sI (σ) (x0) 11 ((tI (σ) (x0) 11) - (tI (σ) (a7) ((x2).toNatClampNeg)))) (x0) 12) - (tI (sI (σ) (x0) 11 ((tI (σ) (x0) 11) - (tI (σ) (a7) ((x2).toNatClampNeg)))) (a13) ((x2).toNatClampNeg)))) C tC_5 k1 i2 ⟨by decide, Or.inl W_1_113⟩ rfl rfl rfl (sI_ok (fun _ => rfl)) dX5_emptyGroup_49 ?_
        refine zx_mem (fun ρ19 hρ19 => ?_)
        replace hm := ltb_e hm hρ19
        have k20 : tk ρ19 (x0) = .inl 5 := by rw [hρ19]; exact k1
        have i21 : tIn b0 ρ19 (x0) := by rw [hρ19]; exact i2
        have k22 : tk ρ19 (a7) = .inr (1, n11) := by rw [hρ19]; exact k9
        have i23 : tIn b0 ρ19 (a7) := by rw [hρ19]; exact i10
        have k24 : tk ρ19 (a13) = .inr (1, n17) := by rw [hρ19]; exact k15
        have i25 : tIn b0 ρ19 (a13) := by rw [hρ19]; exact i16
        refine zx_aload_n C dX5_emptyGroup_52 0 rfl ?_
        obtain ⟨a26, h27, hm⟩ := osm_e hm
        refine zx_get (j := 4) C tC_5 k20 i21 ⟨by decide, Or.inl W_1_100⟩ dX5_emptyGroup_53 (.ref a26) (rf_s h27) ?_
        refine zx_iload_n C dX5_emptyGroup_56 2 rfl ?_
        refine zx_iconst (v := 0) C dX5_emptyGroup_57 (by decide) ?_
        obtain ⟨n30, k28, i29, hm⟩ := ckR_e hm
        obtain ⟨h31, hm⟩ := ckI_e hm
        refine zx_bast C k28 i29 h31 dX5_emptyGroup_58 ?_
        refine zx_aload_n C dX5_emptyGroup_59 0 rfl ?_
        obtain ⟨a32, h33, hm⟩ := osm_e hm
        refine zx_get (j := 5) C tC_5 k20 i21 ⟨by decide, Or.inl W_1_101⟩ dX5_emptyGroup_60 (.ref a32) (rf_s h33) ?_
        refine zx_iload_n C dX5_emptyGroup_63 2 rfl ?_
        refine zx_iconst (v := 0) C dX5_emptyGroup_64 (by decide) ?_
        obtain ⟨n36, k34, i35, hm⟩ := ckR_e hm
        obtain ⟨h37, hm⟩ := ckI_e hm
        refine zx_bast C k34 i35 h37 dX5_emptyGroup_65 ?_
        obtain ⟨y38, hy38⟩ : ∃ z : Int32, z = (x2) + Int32.ofInt 1 := ⟨_, rfl⟩
        replace hm := ltb_e hm hy38
        refine zx_iinc C [(2, .int (y38)), (0, .ref (x0)), (1, .int (x1))] dX5_emptyGroup_66 2 rfl hy38.symm (by decide) rfl ?_
        refine zx_goto C 2 dX5_emptyGroup_69 (by decide) ?_
        exact zx_lv [1, 2, 0] [(0, .ref (x0)), (1, .int (x1)), (2, .int (y38))] rfl (hrc2 _ _ _ _ hm)
set_option maxRecDepth 100000 in
set_option maxHeartbeats 1000000 in
theorem c_X5_emptyGroup {l : Launch} {D : va_G} {aC : Nat → ClassId} {b0 fu : Nat} {a0 : Nat} {p0 : Int32} {σ τ : tM} {v : Unit} (hm : m_X5_emptyGroup b0 fu a0 p0 σ = some (v, τ)) : tMt l D aC b0 yX5_emptyGroup (Cond.code yX5_emptyGroup cX5_emptyGroup 3 none) 0 0 [.ref (a0), .int (p0)] σ (.inl none) τ := by
  unfold m_X5_emptyGroup at hm
  obtain ⟨hg, hm⟩ := grw_e hm
  refine tMt_of (n := 0) rfl (Nat.le_of_ble_eq_true rfl) hg ?_
  intro p e s m below meth c C htab hin
  refine zx_lv [0, 1] [(0, .ref (a0)), (1, .int (p0))] rfl ?_
  refine zx_iconst (v := 0) C dX5_emptyGroup_0 (by decide) ?_
  refine zx_istore_n C [(2, .int (0)), (0, .ref (a0)), (1, .int (p0))] dX5_emptyGroup_1 rfl (by decide) rfl ?_
  exact zx_lv [1, 2, 0] [(0, .ref (a0)), (1, .int (p0)), (2, .int (0))] rfl (l_X5_emptyGroup_2 C htab hin  _ _ _ _ _ hm)
abbrev cX5_numberOf : ByteArray := prog_7_method_6_code
def yX5_numberOf : MethodName := ⟨"SyncTree$Space", "numberOf", "(I)I"⟩
theorem Y_X5_numberOf : tY yX5_numberOf cX5_numberOf 2 (some .int) 1 := ⟨W_4_8, W_1_3, ⟨by decide +kernel, by decide +kernel⟩, by decide +kernel⟩
theorem dX5_numberOf_0 : decode cX5_numberOf 0 = .ok (.iload_n 1, 1) := by decide +kernel
theorem dX5_numberOf_1 : decode cX5_numberOf 1 = .ok (.bipush 34, 2) := by decide +kernel
theorem dX5_numberOf_3 : decode cX5_numberOf 3 = .ok (.if_icmp .ge 7, 3) := by decide +kernel
theorem dX5_numberOf_6 : decode cX5_numberOf 6 = .ok (.iload_n 1, 1) := by decide +kernel
theorem dX5_numberOf_7 : decode cX5_numberOf 7 = .ok (.goto 9, 3) := by decide +kernel
theorem dX5_numberOf_10 : decode cX5_numberOf 10 = .ok (.iload_n 1, 1) := by decide +kernel
theorem dX5_numberOf_11 : decode cX5_numberOf 11 = .ok (.aload_n 0, 1) := by decide +kernel
theorem dX5_numberOf_12 : decode cX5_numberOf 12 = .ok (.getfield 52, 3) := by decide +kernel
theorem dX5_numberOf_15 : decode cX5_numberOf 15 = .ok (.iadd, 1) := by decide +kernel
theorem dX5_numberOf_16 : decode cX5_numberOf 16 = .ok (.ireturn, 1) := by decide +kernel
def J_X5_numberOf_16 (b0 fu : Nat)  (s0 : Int32) (σ : tM) : Option ((Int32) × tM) := some (s0, σ)
def m_X5_numberOf (b0 fu : Nat) (a0 : Nat) (p0 : Int32) (σ : tM) : Option ((Int32) × tM) := grw σ (if (34) ≤ (p0) then ckO b0 (σ) (a0) 5 (J_X5_numberOf_16 b0 fu   ((p0) + (tI (σ) (a0) 8)) (σ)) else J_X5_numberOf_16 b0 fu   (p0) (σ))
set_option maxRecDepth 100000 in
set_option maxHeartbeats 1000000 in
theorem j_X5_numberOf_16 {p : Program} {l : Launch} {e : Env} {s : State} {m : MethodId} {args : Array Value} {below : List Frame} {meth : Method} {c : Code} {D : va_G} {aC : Nat → ClassId} {b0 fu : Nat} {σ0 τ : tM} {v : Int32}  (C : tCx p l s m args meth c yX5_numberOf.cls cX5_numberOf 2 (some .int) D aC b0 σ0) (htab : ∀ x ∈ c.exceptionTable.toList, False) (hin : meth.name = yX5_numberOf.name)  {s0 : Int32} {σ : tM} (hm : J_X5_numberOf_16 b0 fu  s0 σ = some (v, τ)) : tX p l e s m args below meth c 2 0 0 D aC b0 σ0 (.inl (some (.int v))) τ 16 [] [.int (s0)] σ := by
  unfold J_X5_numberOf_16 at hm
  obtain ⟨rfl, rfl⟩ := ret_e hm
  exact zx_iret C rfl rfl rfl dX5_numberOf_16
set_option maxRecDepth 100000 in
set_option maxHeartbeats 1000000 in
theorem c_X5_numberOf {l : Launch} {D : va_G} {aC : Nat → ClassId} {b0 fu : Nat} {a0 : Nat} {p0 : Int32} {σ τ : tM} {v : Int32} (hm : m_X5_numberOf b0 fu a0 p0 σ = some (v, τ)) : tMt l D aC b0 yX5_numberOf (Cond.code yX5_numberOf cX5_numberOf 2 (some .int)) 0 0 [.ref (a0), .int (p0)] σ (.inl (some (.int v))) τ := by
  unfold m_X5_numberOf at hm
  obtain ⟨hg, hm⟩ := grw_e hm
  refine tMt_of (n := 0) rfl (Nat.le_of_ble_eq_true rfl) hg ?_
  intro p e s m below meth c C htab hin
  refine zx_lv [0, 1] [(0, .ref (a0)), (1, .int (p0))] rfl ?_
  refine zx_iload_n C dX5_numberOf_0 1 rfl ?_
  refine zx_bipush (v := 34) C dX5_numberOf_1 (by decide) ?_
  refine zx_icmp_ge C 10 dX5_numberOf_3 (by decide) (fun c1 => ?_) (fun c1 => ?_)
  · replace hm := ip_e hm c1
    refine zx_iload_n C dX5_numberOf_10 1 rfl ?_
    refine zx_aload_n C dX5_numberOf_11 0 rfl ?_
    obtain ⟨k2, i3, hm⟩ := ckO_e hm
    refine zx_get (j := 8) C tC_5 k2 i3 ⟨by decide, Or.inl W_1_106⟩ dX5_numberOf_12 (.int (tI (σ) (a0) 8)) rfl ?_
    refine zx_iadd C dX5_numberOf_15 ?_
    exact zx_lv [] [] rfl (j_X5_numberOf_16 C htab hin    hm)
  · replace hm := in_e hm c1
    refine zx_iload_n C dX5_numberOf_6 1 rfl ?_
    refine zx_goto C 16 dX5_numberOf_7 (by decide) ?_
    exact zx_lv [] [] rfl (j_X5_numberOf_16 C htab hin    hm)
abbrev cX5_birthOf : ByteArray := prog_7_method_7_code
def yX5_birthOf : MethodName := ⟨"SyncTree$Space", "birthOf", "(I)I"⟩
theorem Y_X5_birthOf : tY yX5_birthOf cX5_birthOf 2 (some .int) 1 := ⟨W_6_51, W_1_3, ⟨by decide +kernel, by decide +kernel⟩, by decide +kernel⟩
theorem dX5_birthOf_0 : decode cX5_birthOf 0 = .ok (.iload_n 1, 1) := by decide +kernel
theorem dX5_birthOf_1 : decode cX5_birthOf 1 = .ok (.ifCond .lt 11, 3) := by decide +kernel
theorem dX5_birthOf_4 : decode cX5_birthOf 4 = .ok (.iload_n 1, 1) := by decide +kernel
theorem dX5_birthOf_5 : decode cX5_birthOf 5 = .ok (.aload_n 0, 1) := by decide +kernel
theorem dX5_birthOf_6 : decode cX5_birthOf 6 = .ok (.getfield 48, 3) := by decide +kernel
theorem dX5_birthOf_9 : decode cX5_birthOf 9 = .ok (.if_icmp .lt 7, 3) := by decide +kernel
theorem dX5_birthOf_12 : decode cX5_birthOf 12 = .ok (.iconst 0, 1) := by decide +kernel
theorem dX5_birthOf_13 : decode cX5_birthOf 13 = .ok (.goto 9, 3) := by decide +kernel
theorem dX5_birthOf_16 : decode cX5_birthOf 16 = .ok (.aload_n 0, 1) := by decide +kernel
theorem dX5_birthOf_17 : decode cX5_birthOf 17 = .ok (.getfield 20, 3) := by decide +kernel
theorem dX5_birthOf_20 : decode cX5_birthOf 20 = .ok (.iload_n 1, 1) := by decide +kernel
theorem dX5_birthOf_21 : decode cX5_birthOf 21 = .ok (.iaload, 1) := by decide +kernel
theorem dX5_birthOf_22 : decode cX5_birthOf 22 = .ok (.ireturn, 1) := by decide +kernel
def J_X5_birthOf_22 (b0 fu : Nat)  (s0 : Int32) (σ : tM) : Option ((Int32) × tM) := some (s0, σ)
def J_X5_birthOf_12 (b0 fu : Nat)   (σ : tM) : Option ((Int32) × tM) := J_X5_birthOf_22 b0 fu   (0) (σ)
def m_X5_birthOf (b0 fu : Nat) (a0 : Nat) (p0 : Int32) (σ : tM) : Option ((Int32) × tM) := grw σ (if (p0) < (0) then J_X5_birthOf_12 b0 fu    (σ) else ckO b0 (σ) (a0) 5 (if (p0) < (tI (σ) (a0) 7) then osm (tA (σ) (a0) 2) (fun a5 => ckR b0 (σ) (a5) 0 (fun n9 => ckI (p0) (n9) (J_X5_birthOf_22 b0 fu   (tI (σ) (a5) ((p0).toNatClampNeg)) (σ)))) else J_X5_birthOf_12 b0 fu    (σ)))
set_option maxRecDepth 100000 in
set_option maxHeartbeats 1000000 in
theorem j_X5_birthOf_22 {p : Program} {l : Launch} {e : Env} {s : State} {m : MethodId} {args : Array Value} {below : List Frame} {meth : Method} {c : Code} {D : va_G} {aC : Nat → ClassId} {b0 fu : Nat} {σ0 τ : tM} {v : Int32}  (C : tCx p l s m args meth c yX5_birthOf.cls cX5_birthOf 2 (some .int) D aC b0 σ0) (htab : ∀ x ∈ c.exceptionTable.toList, False) (hin : meth.name = yX5_birthOf.name)  {s0 : Int32} {σ : tM} (hm : J_X5_birthOf_22 b0 fu  s0 σ = some (v, τ)) : tX p l e s m args below meth c 2 0 0 D aC b0 σ0 (.inl (some (.int v))) τ 22 [] [.int (s0)] σ := by
  unfold J_X5_birthOf_22 at hm
  obtain ⟨rfl, rfl⟩ := ret_e hm
  exact zx_iret C rfl rfl rfl dX5_birthOf_22
set_option maxRecDepth 100000 in
set_option maxHeartbeats 1000000 in
theorem j_X5_birthOf_12 {p : Program} {l : Launch} {e : Env} {s : State} {m : MethodId} {args : Array Value} {below : List Frame} {meth : Method} {c : Code} {D : va_G} {aC : Nat → ClassId} {b0 fu : Nat} {σ0 τ : tM} {v : Int32}  (C : tCx p l s m args meth c yX5_birthOf.cls cX5_birthOf 2 (some .int) D aC b0 σ0) (htab : ∀ x ∈ c.exceptionTable.toList, False) (hin : meth.name = yX5_birthOf.name)   {σ : tM} (hm : J_X5_birthOf_12 b0 fu   σ = some (v, τ)) : tX p l e s m args below meth c 2 0 0 D aC b0 σ0 (.inl (some (.int v))) τ 12 [] [] σ := by
  unfold J_X5_birthOf_12 at hm
  refine zx_iconst (v := 0) C dX5_birthOf_12 (by decide) ?_
  refine zx_goto C 22 dX5_birthOf_13 (by decide) ?_
  exact zx_lv [] [] rfl (j_X5_birthOf_22 C htab hin    hm)
set_option maxRecDepth 100000 in
set_option maxHeartbeats 1000000 in
theorem c_X5_birthOf {l : Launch} {D : va_G} {aC : Nat → ClassId} {b0 fu : Nat} {a0 : Nat} {p0 : Int32} {σ τ : tM} {v : Int32} (hm : m_X5_birthOf b0 fu a0 p0 σ = some (v, τ)) : tMt l D aC b0 yX5_birthOf (Cond.code yX5_birthOf cX5_birthOf 2 (some .int)) 0 0 [.ref (a0), .int (p0)] σ (.inl (some (.int v))) τ := by
  unfold m_X5_birthOf at hm
  obtain ⟨hg, hm⟩ := grw_e hm
  refine tMt_of (n := 0) rfl (Nat.le_of_ble_eq_true rfl) hg ?_
  intro p e s m below meth c C htab hin
  refine zx_lv [0, 1] [(0, .ref (a0)), (1, .int (p0))] rfl ?_
  refine zx_iload_n C dX5_birthOf_0 1 rfl ?_
  refine zx_if_lt C 12 dX5_birthOf_1 (by decide) (fun c1 => ?_) (fun c1 => ?_)
  · replace hm := ip_e hm c1
    exact zx_lv [] [] rfl (j_X5_birthOf_12 C htab hin    hm)
  · replace hm := in_e hm c1
    refine zx_iload_n C dX5_birthOf_4 1 rfl ?_
    refine zx_aload_n C dX5_birthOf_5 0 rfl ?_
    obtain ⟨k2, i3, hm⟩ := ckO_e hm
    refine zx_get (j := 7) C tC_5 k2 i3 ⟨by decide, Or.inl W_1_104⟩ dX5_birthOf_6 (.int (tI (σ) (a0) 7)) rfl ?_
    refine zx_icmp_lt C 16 dX5_birthOf_9 (by decide) (fun c4 => ?_) (fun c4 => ?_)
    · replace hm := ip_e hm c4
      refine zx_aload_n C dX5_birthOf_16 0 rfl ?_
      obtain ⟨a5, h6, hm⟩ := osm_e hm
      refine zx_get (j := 2) C tC_5 k2 i3 ⟨by decide, Or.inl W_1_98⟩ dX5_birthOf_17 (.ref a5) (rf_s h6) ?_
      refine zx_iload_n C dX5_birthOf_20 1 rfl ?_
      obtain ⟨n9, k7, i8, hm⟩ := ckR_e hm
      obtain ⟨h10, hm⟩ := ckI_e hm
      refine zx_iald C k7 i8 h10 dX5_birthOf_21 ?_
      exact zx_lv [] [] rfl (j_X5_birthOf_22 C htab hin    hm)
    · replace hm := in_e hm c4
      exact zx_lv [] [] rfl (j_X5_birthOf_12 C htab hin    hm)
abbrev cX5_ownerOf : ByteArray := prog_7_method_8_code
def yX5_ownerOf : MethodName := ⟨"SyncTree$Space", "ownerOf", "(I)I"⟩
theorem Y_X5_ownerOf : tY yX5_ownerOf cX5_ownerOf 2 (some .int) 1 := ⟨W_6_47, W_1_3, ⟨by decide +kernel, by decide +kernel⟩, by decide +kernel⟩
theorem dX5_ownerOf_0 : decode cX5_ownerOf 0 = .ok (.iload_n 1, 1) := by decide +kernel
theorem dX5_ownerOf_1 : decode cX5_ownerOf 1 = .ok (.ifCond .lt 11, 3) := by decide +kernel
theorem dX5_ownerOf_4 : decode cX5_ownerOf 4 = .ok (.iload_n 1, 1) := by decide +kernel
theorem dX5_ownerOf_5 : decode cX5_ownerOf 5 = .ok (.aload_n 0, 1) := by decide +kernel
theorem dX5_ownerOf_6 : decode cX5_ownerOf 6 = .ok (.getfield 48, 3) := by decide +kernel
theorem dX5_ownerOf_9 : decode cX5_ownerOf 9 = .ok (.if_icmp .lt 7, 3) := by decide +kernel
theorem dX5_ownerOf_12 : decode cX5_ownerOf 12 = .ok (.iconst (-1), 1) := by decide +kernel
theorem dX5_ownerOf_13 : decode cX5_ownerOf 13 = .ok (.goto 9, 3) := by decide +kernel
theorem dX5_ownerOf_16 : decode cX5_ownerOf 16 = .ok (.aload_n 0, 1) := by decide +kernel
theorem dX5_ownerOf_17 : decode cX5_ownerOf 17 = .ok (.getfield 23, 3) := by decide +kernel
theorem dX5_ownerOf_20 : decode cX5_ownerOf 20 = .ok (.iload_n 1, 1) := by decide +kernel
theorem dX5_ownerOf_21 : decode cX5_ownerOf 21 = .ok (.baload, 1) := by decide +kernel
theorem dX5_ownerOf_22 : decode cX5_ownerOf 22 = .ok (.ireturn, 1) := by decide +kernel
def J_X5_ownerOf_22 (b0 fu : Nat)  (s0 : Int32) (σ : tM) : Option ((Int32) × tM) := some (s0, σ)
def J_X5_ownerOf_12 (b0 fu : Nat)   (σ : tM) : Option ((Int32) × tM) := J_X5_ownerOf_22 b0 fu   ((-1)) (σ)
def m_X5_ownerOf (b0 fu : Nat) (a0 : Nat) (p0 : Int32) (σ : tM) : Option ((Int32) × tM) := grw σ (if (p0) < (0) then J_X5_ownerOf_12 b0 fu    (σ) else ckO b0 (σ) (a0) 5 (if (p0) < (tI (σ) (a0) 7) then osm (tA (σ) (a0) 3) (fun a5 => ckR b0 (σ) (a5) 1 (fun n9 => ckI (p0) (n9) (J_X5_ownerOf_22 b0 fu   (tI (σ) (a5) ((p0).toNatClampNeg)) (σ)))) else J_X5_ownerOf_12 b0 fu    (σ)))
set_option maxRecDepth 100000 in
set_option maxHeartbeats 1000000 in
theorem j_X5_ownerOf_22 {p : Program} {l : Launch} {e : Env} {s : State} {m : MethodId} {args : Array Value} {below : List Frame} {meth : Method} {c : Code} {D : va_G} {aC : Nat → ClassId} {b0 fu : Nat} {σ0 τ : tM} {v : Int32}  (C : tCx p l s m args meth c yX5_ownerOf.cls cX5_ownerOf 2 (some .int) D aC b0 σ0) (htab : ∀ x ∈ c.exceptionTable.toList, False) (hin : meth.name = yX5_ownerOf.name)  {s0 : Int32} {σ : tM} (hm : J_X5_ownerOf_22 b0 fu  s0 σ = some (v, τ)) : tX p l e s m args below meth c 2 0 0 D aC b0 σ0 (.inl (some (.int v))) τ 22 [] [.int (s0)] σ := by
  unfold J_X5_ownerOf_22 at hm
  obtain ⟨rfl, rfl⟩ := ret_e hm
  exact zx_iret C rfl rfl rfl dX5_ownerOf_22
set_option maxRecDepth 100000 in
set_option maxHeartbeats 1000000 in
theorem j_X5_ownerOf_12 {p : Program} {l : Launch} {e : Env} {s : State} {m : MethodId} {args : Array Value} {below : List Frame} {meth : Method} {c : Code} {D : va_G} {aC : Nat → ClassId} {b0 fu : Nat} {σ0 τ : tM} {v : Int32}  (C : tCx p l s m args meth c yX5_ownerOf.cls cX5_ownerOf 2 (some .int) D aC b0 σ0) (htab : ∀ x ∈ c.exceptionTable.toList, False) (hin : meth.name = yX5_ownerOf.name)   {σ : tM} (hm : J_X5_ownerOf_12 b0 fu   σ = some (v, τ)) : tX p l e s m args below meth c 2 0 0 D aC b0 σ0 (.inl (some (.int v))) τ 12 [] [] σ := by
  unfold J_X5_ownerOf_12 at hm
  refine zx_iconst (v := (-1)) C dX5_ownerOf_12 (by decide) ?_
  refine zx_goto C 22 dX5_ownerOf_13 (by decide) ?_
  exact zx_lv [] [] rfl (j_X5_ownerOf_22 C htab hin    hm)
set_option maxRecDepth 100000 in
set_option maxHeartbeats 1000000 in
theorem c_X5_ownerOf {l : Launch} {D : va_G} {aC : Nat → ClassId} {b0 fu : Nat} {a0 : Nat} {p0 : Int32} {σ τ : tM} {v : Int32} (hm : m_X5_ownerOf b0 fu a0 p0 σ = some (v, τ)) : tMt l D aC b0 yX5_ownerOf (Cond.code yX5_ownerOf cX5_ownerOf 2 (some .int)) 0 0 [.ref (a0), .int (p0)] σ (.inl (some (.int v))) τ := by
  unfold m_X5_ownerOf at hm
  obtain ⟨hg, hm⟩ := grw_e hm
  refine tMt_of (n := 0) rfl (Nat.le_of_ble_eq_true rfl) hg ?_
  intro p e s m below meth c C htab hin
  refine zx_lv [0, 1] [(0, .ref (a0)), (1, .int (p0))] rfl ?_
  refine zx_iload_n C dX5_ownerOf_0 1 rfl ?_
  refine zx_if_lt C 12 dX5_ownerOf_1 (by decide) (fun c1 => ?_) (fun c1 => ?_)
  · replace hm := ip_e hm c1
    exact zx_lv [] [] rfl (j_X5_ownerOf_12 C htab hin    hm)
  · replace hm := in_e hm c1
    refine zx_iload_n C dX5_ownerOf_4 1 rfl ?_
    refine zx_aload_n C dX5_ownerOf_5 0 rfl ?_
    obtain ⟨k2, i3, hm⟩ := ckO_e hm
    refine zx_get (j := 7) C tC_5 k2 i3 ⟨by decide, Or.inl W_1_104⟩ dX5_ownerOf_6 (.int (tI (σ) (a0) 7)) rfl ?_
    refine zx_icmp_lt C 16 dX5_ownerOf_9 (by decide) (fun c4 => ?_) (fun c4 => ?_)
    · replace hm := ip_e hm c4
      refine zx_aload_n C dX5_ownerOf_16 0 rfl ?_
      obtain ⟨a5, h6, hm⟩ := osm_e hm
      refine zx_get (j := 3) C tC_5 k2 i3 ⟨by decide, Or.inl W_1_99⟩ dX5_ownerOf_17 (.ref a5) (rf_s h6) ?_
      refine zx_iload_n C dX5_ownerOf_20 1 rfl ?_
      obtain ⟨n9, k7, i8, hm⟩ := ckR_e hm
      obtain ⟨h10, hm⟩ := ckI_e hm
      refine zx_bald C k7 i8 h10 dX5_ownerOf_21 ?_
      exact zx_lv [] [] rfl (j_X5_ownerOf_22 C htab hin    hm)
    · replace hm := in_e hm c4
      exact zx_lv [] [] rfl (j_X5_ownerOf_12 C htab hin    hm)
abbrev cX5_isTouched : ByteArray := prog_7_method_9_code
def yX5_isTouched : MethodName := ⟨"SyncTree$Space", "isTouched", "(I)Z"⟩
theorem Y_X5_isTouched : tY yX5_isTouched cX5_isTouched 2 (some .boolean) 1 := ⟨W_4_60, W_1_3, ⟨by decide +kernel, by decide +kernel⟩, by decide +kernel⟩
theorem dX5_isTouched_0 : decode cX5_isTouched 0 = .ok (.iload_n 1, 1) := by decide +kernel
theorem dX5_isTouched_1 : decode cX5_isTouched 1 = .ok (.ifCond .le 24, 3) := by decide +kernel
theorem dX5_isTouched_4 : decode cX5_isTouched 4 = .ok (.iload_n 1, 1) := by decide +kernel
theorem dX5_isTouched_5 : decode cX5_isTouched 5 = .ok (.aload_n 0, 1) := by decide +kernel
theorem dX5_isTouched_6 : decode cX5_isTouched 6 = .ok (.getfield 48, 3) := by decide +kernel
theorem dX5_isTouched_9 : decode cX5_isTouched 9 = .ok (.if_icmp .ge 16, 3) := by decide +kernel
theorem dX5_isTouched_12 : decode cX5_isTouched 12 = .ok (.aload_n 0, 1) := by decide +kernel
theorem dX5_isTouched_13 : decode cX5_isTouched 13 = .ok (.getfield 27, 3) := by decide +kernel
theorem dX5_isTouched_16 : decode cX5_isTouched 16 = .ok (.iload_n 1, 1) := by decide +kernel
theorem dX5_isTouched_17 : decode cX5_isTouched 17 = .ok (.baload, 1) := by decide +kernel
theorem dX5_isTouched_18 : decode cX5_isTouched 18 = .ok (.ifCond .eq 7, 3) := by decide +kernel
theorem dX5_isTouched_21 : decode cX5_isTouched 21 = .ok (.iconst 1, 1) := by decide +kernel
theorem dX5_isTouched_22 : decode cX5_isTouched 22 = .ok (.goto 4, 3) := by decide +kernel
theorem dX5_isTouched_25 : decode cX5_isTouched 25 = .ok (.iconst 0, 1) := by decide +kernel
theorem dX5_isTouched_26 : decode cX5_isTouched 26 = .ok (.ireturn, 1) := by decide +kernel
def J_X5_isTouched_26 (b0 fu : Nat)  (s0 : Int32) (σ : tM) : Option ((Int32) × tM) := ckZ (s0) (some (s0, σ))
def J_X5_isTouched_25 (b0 fu : Nat)   (σ : tM) : Option ((Int32) × tM) := J_X5_isTouched_26 b0 fu   (0) (σ)
def m_X5_isTouched (b0 fu : Nat) (a0 : Nat) (p0 : Int32) (σ : tM) : Option ((Int32) × tM) := grw σ (if (p0) ≤ (0) then J_X5_isTouched_25 b0 fu    (σ) else ckO b0 (σ) (a0) 5 (if (tI (σ) (a0) 7) ≤ (p0) then J_X5_isTouched_25 b0 fu    (σ) else osm (tA (σ) (a0) 4) (fun a6 => ckR b0 (σ) (a6) 1 (fun n10 => ckI (p0) (n10) (if (tI (σ) (a6) ((p0).toNatClampNeg)) = (0) then J_X5_isTouched_25 b0 fu    (σ) else J_X5_isTouched_26 b0 fu   (1) (σ))))))
set_option maxRecDepth 100000 in
set_option maxHeartbeats 1000000 in
theorem j_X5_isTouched_26 {p : Program} {l : Launch} {e : Env} {s : State} {m : MethodId} {args : Array Value} {below : List Frame} {meth : Method} {c : Code} {D : va_G} {aC : Nat → ClassId} {b0 fu : Nat} {σ0 τ : tM} {v : Int32}  (C : tCx p l s m args meth c yX5_isTouched.cls cX5_isTouched 2 (some .boolean) D aC b0 σ0) (htab : ∀ x ∈ c.exceptionTable.toList, False) (hin : meth.name = yX5_isTouched.name)  {s0 : Int32} {σ : tM} (hm : J_X5_isTouched_26 b0 fu  s0 σ = some (v, τ)) : tX p l e s m args below meth c 2 0 0 D aC b0 σ0 (.inl (some (.int v))) τ 26 [] [.int (s0)] σ := by
  unfold J_X5_isTouched_26 at hm
  obtain ⟨h2, hm⟩ := ckZ_e hm
  obtain ⟨rfl, rfl⟩ := ret_e hm
  exact zx_zret C rfl h2 rfl rfl dX5_isTouched_26
set_option maxRecDepth 100000 in
set_option maxHeartbeats 1000000 in
theorem j_X5_isTouched_25 {p : Program} {l : Launch} {e : Env} {s : State} {m : MethodId} {args : Array Value} {below : List Frame} {meth : Method} {c : Code} {D : va_G} {aC : Nat → ClassId} {b0 fu : Nat} {σ0 τ : tM} {v : Int32}  (C : tCx p l s m args meth c yX5_isTouched.cls cX5_isTouched 2 (some .boolean) D aC b0 σ0) (htab : ∀ x ∈ c.exceptionTable.toList, False) (hin : meth.name = yX5_isTouched.name)   {σ : tM} (hm : J_X5_isTouched_25 b0 fu   σ = some (v, τ)) : tX p l e s m args below meth c 2 0 0 D aC b0 σ0 (.inl (some (.int v))) τ 25 [] [] σ := by
  unfold J_X5_isTouched_25 at hm
  refine zx_iconst (v := 0) C dX5_isTouched_25 (by decide) ?_
  exact zx_lv [] [] rfl (j_X5_isTouched_26 C htab hin    hm)
set_option maxRecDepth 100000 in
set_option maxHeartbeats 1000000 in
theorem c_X5_isTouched {l : Launch} {D : va_G} {aC : Nat → ClassId} {b0 fu : Nat} {a0 : Nat} {p0 : Int32} {σ τ : tM} {v : Int32} (hm : m_X5_isTouched b0 fu a0 p0 σ = some (v, τ)) : tMt l D aC b0 yX5_isTouched (Cond.code yX5_isTouched cX5_isTouched 2 (some .boolean)) 0 0 [.ref (a0), .int (p0)] σ (.inl (some (.int v))) τ := by
  unfold m_X5_isTouched at hm
  obtain ⟨hg, hm⟩ := grw_e hm
  refine tMt_of (n := 0) rfl (Nat.le_of_ble_eq_true rfl) hg ?_
  intro p e s m below meth c C htab hin
  refine zx_lv [0, 1] [(0, .ref (a0)), (1, .int (p0))] rfl ?_
  refine zx_iload_n C dX5_isTouched_0 1 rfl ?_
  refine zx_if_le C 25 dX5_isTouched_1 (by decide) (fun c1 => ?_) (fun c1 => ?_)
  · replace hm := ip_e hm c1
    exact zx_lv [] [] rfl (j_X5_isTouched_25 C htab hin    hm)
  · replace hm := in_e hm c1
    refine zx_iload_n C dX5_isTouched_4 1 rfl ?_
    refine zx_aload_n C dX5_isTouched_5 0 rfl ?_
    obtain ⟨k3, i4, hm⟩ := ckO_e hm
    refine zx_get (j := 7) C tC_5 k3 i4 ⟨by decide, Or.inl W_1_104⟩ dX5_isTouched_6 (.int (tI (σ) (a0) 7)) rfl ?_
    refine zx_icmp_ge C 25 dX5_isTouched_9 (by decide) (fun c5 => ?_) (fun c5 => ?_)
    · replace hm := ip_e hm c5
      exact zx_lv [] [] rfl (j_X5_isTouched_25 C htab hin    hm)
    · replace hm := in_e hm c5
      refine zx_aload_n C dX5_isTouched_12 0 rfl ?_
      obtain ⟨a6, h7, hm⟩ := osm_e hm
      refine zx_get (j := 4) C tC_5 k3 i4 ⟨by decide, Or.inl W_1_100⟩ dX5_isTouched_13 (.ref a6) (rf_s h7) ?_
      refine zx_iload_n C dX5_isTouched_16 1 rfl ?_
      obtain ⟨n10, k8, i9, hm⟩ := ckR_e hm
      obtain ⟨h11, hm⟩ := ckI_e hm
      refine zx_bald C k8 i9 h11 dX5_isTouched_17 ?_
      refine zx_if_eq C 25 dX5_isTouched_18 (by decide) (fun c12 => ?_) (fun c12 => ?_)
      · replace hm := ip_e hm c12
        exact zx_lv [] [] rfl (j_X5_isTouched_25 C htab hin    hm)
      · replace hm := in_e hm c12
        refine zx_iconst (v := 1) C dX5_isTouched_21 (by decide) ?_
        refine zx_goto C 26 dX5_isTouched_22 (by decide) ?_
        exact zx_lv [] [] rfl (j_X5_isTouched_26 C htab hin    hm)
abbrev cX5_isRevoked : ByteArray := prog_7_method_10_code
def yX5_isRevoked : MethodName := ⟨"SyncTree$Space", "isRevoked", "(I)Z"⟩
theorem Y_X5_isRevoked : tY yX5_isRevoked cX5_isRevoked 2 (some .boolean) 1 := ⟨W_4_64, W_1_3, ⟨by decide +kernel, by decide +kernel⟩, by decide +kernel⟩
theorem dX5_isRevoked_0 : decode cX5_isRevoked 0 = .ok (.iload_n 1, 1) := by decide +kernel
theorem dX5_isRevoked_1 : decode cX5_isRevoked 1 = .ok (.ifCond .le 24, 3) := by decide +kernel
theorem dX5_isRevoked_4 : decode cX5_isRevoked 4 = .ok (.iload_n 1, 1) := by decide +kernel
theorem dX5_isRevoked_5 : decode cX5_isRevoked 5 = .ok (.aload_n 0, 1) := by decide +kernel
theorem dX5_isRevoked_6 : decode cX5_isRevoked 6 = .ok (.getfield 48, 3) := by decide +kernel
theorem dX5_isRevoked_9 : decode cX5_isRevoked 9 = .ok (.if_icmp .ge 16, 3) := by decide +kernel
theorem dX5_isRevoked_12 : decode cX5_isRevoked 12 = .ok (.aload_n 0, 1) := by decide +kernel
theorem dX5_isRevoked_13 : decode cX5_isRevoked 13 = .ok (.getfield 30, 3) := by decide +kernel
theorem dX5_isRevoked_16 : decode cX5_isRevoked 16 = .ok (.iload_n 1, 1) := by decide +kernel
theorem dX5_isRevoked_17 : decode cX5_isRevoked 17 = .ok (.baload, 1) := by decide +kernel
theorem dX5_isRevoked_18 : decode cX5_isRevoked 18 = .ok (.ifCond .eq 7, 3) := by decide +kernel
theorem dX5_isRevoked_21 : decode cX5_isRevoked 21 = .ok (.iconst 1, 1) := by decide +kernel
theorem dX5_isRevoked_22 : decode cX5_isRevoked 22 = .ok (.goto 4, 3) := by decide +kernel
theorem dX5_isRevoked_25 : decode cX5_isRevoked 25 = .ok (.iconst 0, 1) := by decide +kernel
theorem dX5_isRevoked_26 : decode cX5_isRevoked 26 = .ok (.ireturn, 1) := by decide +kernel
def J_X5_isRevoked_26 (b0 fu : Nat)  (s0 : Int32) (σ : tM) : Option ((Int32) × tM) := ckZ (s0) (some (s0, σ))
def J_X5_isRevoked_25 (b0 fu : Nat)   (σ : tM) : Option ((Int32) × tM) := J_X5_isRevoked_26 b0 fu   (0) (σ)
def m_X5_isRevoked (b0 fu : Nat) (a0 : Nat) (p0 : Int32) (σ : tM) : Option ((Int32) × tM) := grw σ (if (p0) ≤ (0) then J_X5_isRevoked_25 b0 fu    (σ) else ckO b0 (σ) (a0) 5 (if (tI (σ) (a0) 7) ≤ (p0) then J_X5_isRevoked_25 b0 fu    (σ) else osm (tA (σ) (a0) 5) (fun a6 => ckR b0 (σ) (a6) 1 (fun n10 => ckI (p0) (n10) (if (tI (σ) (a6) ((p0).toNatClampNeg)) = (0) then J_X5_isRevoked_25 b0 fu    (σ) else J_X5_isRevoked_26 b0 fu   (1) (σ))))))
set_option maxRecDepth 100000 in
set_option maxHeartbeats 1000000 in
theorem j_X5_isRevoked_26 {p : Program} {l : Launch} {e : Env} {s : State} {m : MethodId} {args : Array Value} {below : List Frame} {meth : Method} {c : Code} {D : va_G} {aC : Nat → ClassId} {b0 fu : Nat} {σ0 τ : tM} {v : Int32}  (C : tCx p l s m args meth c yX5_isRevoked.cls cX5_isRevoked 2 (some .boolean) D aC b0 σ0) (htab : ∀ x ∈ c.exceptionTable.toList, False) (hin : meth.name = yX5_isRevoked.name)  {s0 : Int32} {σ : tM} (hm : J_X5_isRevoked_26 b0 fu  s0 σ = some (v, τ)) : tX p l e s m args below meth c 2 0 0 D aC b0 σ0 (.inl (some (.int v))) τ 26 [] [.int (s0)] σ := by
  unfold J_X5_isRevoked_26 at hm
  obtain ⟨h2, hm⟩ := ckZ_e hm
  obtain ⟨rfl, rfl⟩ := ret_e hm
  exact zx_zret C rfl h2 rfl rfl dX5_isRevoked_26
set_option maxRecDepth 100000 in
set_option maxHeartbeats 1000000 in
theorem j_X5_isRevoked_25 {p : Program} {l : Launch} {e : Env} {s : State} {m : MethodId} {args : Array Value} {below : List Frame} {meth : Method} {c : Code} {D : va_G} {aC : Nat → ClassId} {b0 fu : Nat} {σ0 τ : tM} {v : Int32}  (C : tCx p l s m args meth c yX5_isRevoked.cls cX5_isRevoked 2 (some .boolean) D aC b0 σ0) (htab : ∀ x ∈ c.exceptionTable.toList, False) (hin : meth.name = yX5_isRevoked.name)   {σ : tM} (hm : J_X5_isRevoked_25 b0 fu   σ = some (v, τ)) : tX p l e s m args below meth c 2 0 0 D aC b0 σ0 (.inl (some (.int v))) τ 25 [] [] σ := by
  unfold J_X5_isRevoked_25 at hm
  refine zx_iconst (v := 0) C dX5_isRevoked_25 (by decide) ?_
  exact zx_lv [] [] rfl (j_X5_isRevoked_26 C htab hin    hm)
set_option maxRecDepth 100000 in
set_option maxHeartbeats 1000000 in
theorem c_X5_isRevoked {l : Launch} {D : va_G} {aC : Nat → ClassId} {b0 fu : Nat} {a0 : Nat} {p0 : Int32} {σ τ : tM} {v : Int32} (hm : m_X5_isRevoked b0 fu a0 p0 σ = some (v, τ)) : tMt l D aC b0 yX5_isRevoked (Cond.code yX5_isRevoked cX5_isRevoked 2 (some .boolean)) 0 0 [.ref (a0), .int (p0)] σ (.inl (some (.int v))) τ := by
  unfold m_X5_isRevoked at hm
  obtain ⟨hg, hm⟩ := grw_e hm
  refine tMt_of (n := 0) rfl (Nat.le_of_ble_eq_true rfl) hg ?_
  intro p e s m below meth c C htab hin
  refine zx_lv [0, 1] [(0, .ref (a0)), (1, .int (p0))] rfl ?_
  refine zx_iload_n C dX5_isRevoked_0 1 rfl ?_
  refine zx_if_le C 25 dX5_isRevoked_1 (by decide) (fun c1 => ?_) (fun c1 => ?_)
  · replace hm := ip_e hm c1
    exact zx_lv [] [] rfl (j_X5_isRevoked_25 C htab hin    hm)
  · replace hm := in_e hm c1
    refine zx_iload_n C dX5_isRevoked_4 1 rfl ?_
    refine zx_aload_n C dX5_isRevoked_5 0 rfl ?_
    obtain ⟨k3, i4, hm⟩ := ckO_e hm
    refine zx_get (j := 7) C tC_5 k3 i4 ⟨by decide, Or.inl W_1_104⟩ dX5_isRevoked_6 (.int (tI (σ) (a0) 7)) rfl ?_
    refine zx_icmp_ge C 25 dX5_isRevoked_9 (by decide) (fun c5 => ?_) (fun c5 => ?_)
    · replace hm := ip_e hm c5
      exact zx_lv [] [] rfl (j_X5_isRevoked_25 C htab hin    hm)
    · replace hm := in_e hm c5
      refine zx_aload_n C dX5_isRevoked_12 0 rfl ?_
      obtain ⟨a6, h7, hm⟩ := osm_e hm
      refine zx_get (j := 5) C tC_5 k3 i4 ⟨by decide, Or.inl W_1_101⟩ dX5_isRevoked_13 (.ref a6) (rf_s h7) ?_
      refine zx_iload_n C dX5_isRevoked_16 1 rfl ?_
      obtain ⟨n10, k8, i9, hm⟩ := ckR_e hm
      obtain ⟨h11, hm⟩ := ckI_e hm
      refine zx_bald C k8 i9 h11 dX5_isRevoked_17 ?_
      refine zx_if_eq C 25 dX5_isRevoked_18 (by decide) (fun c12 => ?_) (fun c12 => ?_)
      · replace hm := ip_e hm c12
        exact zx_lv [] [] rfl (j_X5_isRevoked_25 C htab hin    hm)
      · replace hm := in_e hm c12
        refine zx_iconst (v := 1) C dX5_isRevoked_21 (by decide) ?_
        refine zx_goto C 26 dX5_isRevoked_22 (by decide) ?_
        exact zx_lv [] [] rfl (j_X5_isRevoked_26 C htab hin    hm)
abbrev cX5_isDirty : ByteArray := prog_7_method_11_code
def yX5_isDirty : MethodName := ⟨"SyncTree$Space", "isDirty", "(I)Z"⟩
theorem Y_X5_isDirty : tY yX5_isDirty cX5_isDirty 2 (some .boolean) 1 := ⟨W_6_43, W_1_3, ⟨by decide +kernel, by decide +kernel⟩, by decide +kernel⟩
theorem dX5_isDirty_0 : decode cX5_isDirty 0 = .ok (.iload_n 1, 1) := by decide +kernel
theorem dX5_isDirty_1 : decode cX5_isDirty 1 = .ok (.ifCond .le 24, 3) := by decide +kernel
theorem dX5_isDirty_4 : decode cX5_isDirty 4 = .ok (.iload_n 1, 1) := by decide +kernel
theorem dX5_isDirty_5 : decode cX5_isDirty 5 = .ok (.aload_n 0, 1) := by decide +kernel
theorem dX5_isDirty_6 : decode cX5_isDirty 6 = .ok (.getfield 48, 3) := by decide +kernel
theorem dX5_isDirty_9 : decode cX5_isDirty 9 = .ok (.if_icmp .ge 16, 3) := by decide +kernel
theorem dX5_isDirty_12 : decode cX5_isDirty 12 = .ok (.aload_n 0, 1) := by decide +kernel
theorem dX5_isDirty_13 : decode cX5_isDirty 13 = .ok (.getfield 33, 3) := by decide +kernel
theorem dX5_isDirty_16 : decode cX5_isDirty 16 = .ok (.iload_n 1, 1) := by decide +kernel
theorem dX5_isDirty_17 : decode cX5_isDirty 17 = .ok (.baload, 1) := by decide +kernel
theorem dX5_isDirty_18 : decode cX5_isDirty 18 = .ok (.ifCond .eq 7, 3) := by decide +kernel
theorem dX5_isDirty_21 : decode cX5_isDirty 21 = .ok (.iconst 1, 1) := by decide +kernel
theorem dX5_isDirty_22 : decode cX5_isDirty 22 = .ok (.goto 4, 3) := by decide +kernel
theorem dX5_isDirty_25 : decode cX5_isDirty 25 = .ok (.iconst 0, 1) := by decide +kernel
theorem dX5_isDirty_26 : decode cX5_isDirty 26 = .ok (.ireturn, 1) := by decide +kernel
def J_X5_isDirty_26 (b0 fu : Nat)  (s0 : Int32) (σ : tM) : Option ((Int32) × tM) := ckZ (s0) (some (s0, σ))
def J_X5_isDirty_25 (b0 fu : Nat)   (σ : tM) : Option ((Int32) × tM) := J_X5_isDirty_26 b0 fu   (0) (σ)
def m_X5_isDirty (b0 fu : Nat) (a0 : Nat) (p0 : Int32) (σ : tM) : Option ((Int32) × tM) := grw σ (if (p0) ≤ (0) then J_X5_isDirty_25 b0 fu    (σ) else ckO b0 (σ) (a0) 5 (if (tI (σ) (a0) 7) ≤ (p0) then J_X5_isDirty_25 b0 fu    (σ) else osm (tA (σ) (a0) 6) (fun a6 => ckR b0 (σ) (a6) 1 (fun n10 => ckI (p0) (n10) (if (tI (σ) (a6) ((p0).toNatClampNeg)) = (0) then J_X5_isDirty_25 b0 fu    (σ) else J_X5_isDirty_26 b0 fu   (1) (σ))))))
set_option maxRecDepth 100000 in
set_option maxHeartbeats 1000000 in
theorem j_X5_isDirty_26 {p : Program} {l : Launch} {e : Env} {s : State} {m : MethodId} {args : Array Value} {below : List Frame} {meth : Method} {c : Code} {D : va_G} {aC : Nat → ClassId} {b0 fu : Nat} {σ0 τ : tM} {v : Int32}  (C : tCx p l s m args meth c yX5_isDirty.cls cX5_isDirty 2 (some .boolean) D aC b0 σ0) (htab : ∀ x ∈ c.exceptionTable.toList, False) (hin : meth.name = yX5_isDirty.name)  {s0 : Int32} {σ : tM} (hm : J_X5_isDirty_26 b0 fu  s0 σ = some (v, τ)) : tX p l e s m args below meth c 2 0 0 D aC b0 σ0 (.inl (some (.int v))) τ 26 [] [.int (s0)] σ := by
  unfold J_X5_isDirty_26 at hm
  obtain ⟨h2, hm⟩ := ckZ_e hm
  obtain ⟨rfl, rfl⟩ := ret_e hm
  exact zx_zret C rfl h2 rfl rfl dX5_isDirty_26
set_option maxRecDepth 100000 in
set_option maxHeartbeats 1000000 in
theorem j_X5_isDirty_25 {p : Program} {l : Launch} {e : Env} {s : State} {m : MethodId} {args : Array Value} {below : List Frame} {meth : Method} {c : Code} {D : va_G} {aC : Nat → ClassId} {b0 fu : Nat} {σ0 τ : tM} {v : Int32}  (C : tCx p l s m args meth c yX5_isDirty.cls cX5_isDirty 2 (some .boolean) D aC b0 σ0) (htab : ∀ x ∈ c.exceptionTable.toList, False) (hin : meth.name = yX5_isDirty.name)   {σ : tM} (hm : J_X5_isDirty_25 b0 fu   σ = some (v, τ)) : tX p l e s m args below meth c 2 0 0 D aC b0 σ0 (.inl (some (.int v))) τ 25 [] [] σ := by
  unfold J_X5_isDirty_25 at hm
  refine zx_iconst (v := 0) C dX5_isDirty_25 (by decide) ?_
  exact zx_lv [] [] rfl (j_X5_isDirty_26 C htab hin    hm)
set_option maxRecDepth 100000 in
set_option maxHeartbeats 1000000 in
theorem c_X5_isDirty {l : Launch} {D : va_G} {aC : Nat → ClassId} {b0 fu : Nat} {a0 : Nat} {p0 : Int32} {σ τ : tM} {v : Int32} (hm : m_X5_isDirty b0 fu a0 p0 σ = some (v, τ)) : tMt l D aC b0 yX5_isDirty (Cond.code yX5_isDirty cX5_isDirty 2 (some .boolean)) 0 0 [.ref (a0), .int (p0)] σ (.inl (some (.int v))) τ := by
  unfold m_X5_isDirty at hm
  obtain ⟨hg, hm⟩ := grw_e hm
  refine tMt_of (n := 0) rfl (Nat.le_of_ble_eq_true rfl) hg ?_
  intro p e s m below meth c C htab hin
  refine zx_lv [0, 1] [(0, .ref (a0)), (1, .int (p0))] rfl ?_
  refine zx_iload_n C dX5_isDirty_0 1 rfl ?_
  refine zx_if_le C 25 dX5_isDirty_1 (by decide) (fun c1 => ?_) (fun c1 => ?_)
  · replace hm := ip_e hm c1
    exact zx_lv [] [] rfl (j_X5_isDirty_25 C htab hin    hm)
  · replace hm := in_e hm c1
    refine zx_iload_n C dX5_isDirty_4 1 rfl ?_
    refine zx_aload_n C dX5_isDirty_5 0 rfl ?_
    obtain ⟨k3, i4, hm⟩ := ckO_e hm
    refine zx_get (j := 7) C tC_5 k3 i4 ⟨by decide, Or.inl W_1_104⟩ dX5_isDirty_6 (.int (tI (σ) (a0) 7)) rfl ?_
    refine zx_icmp_ge C 25 dX5_isDirty_9 (by decide) (fun c5 => ?_) (fun c5 => ?_)
    · replace hm := ip_e hm c5
      exact zx_lv [] [] rfl (j_X5_isDirty_25 C htab hin    hm)
    · replace hm := in_e hm c5
      refine zx_aload_n C dX5_isDirty_12 0 rfl ?_
      obtain ⟨a6, h7, hm⟩ := osm_e hm
      refine zx_get (j := 6) C tC_5 k3 i4 ⟨by decide, Or.inl W_1_102⟩ dX5_isDirty_13 (.ref a6) (rf_s h7) ?_
      refine zx_iload_n C dX5_isDirty_16 1 rfl ?_
      obtain ⟨n10, k8, i9, hm⟩ := ckR_e hm
      obtain ⟨h11, hm⟩ := ckI_e hm
      refine zx_bald C k8 i9 h11 dX5_isDirty_17 ?_
      refine zx_if_eq C 25 dX5_isDirty_18 (by decide) (fun c12 => ?_) (fun c12 => ?_)
      · replace hm := ip_e hm c12
        exact zx_lv [] [] rfl (j_X5_isDirty_25 C htab hin    hm)
      · replace hm := in_e hm c12
        refine zx_iconst (v := 1) C dX5_isDirty_21 (by decide) ?_
        refine zx_goto C 26 dX5_isDirty_22 (by decide) ?_
        exact zx_lv [] [] rfl (j_X5_isDirty_26 C htab hin    hm)
