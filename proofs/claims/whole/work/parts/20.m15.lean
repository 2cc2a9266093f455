abbrev cX1_applySome : ByteArray := prog_3_method_18_code
def yX1_applySome : MethodName := ⟨"SyncTree$Journal", "applySome", "(I)I"⟩
theorem Y_X1_applySome : tY yX1_applySome cX1_applySome 5 (some .int) 1 := ⟨W_3_236, W_1_5, ⟨by decide +kernel, by decide +kernel⟩, by decide +kernel⟩
theorem dX1_applySome_0 : decode cX1_applySome 0 = .ok (.iconst 0, 1) := by decide +kernel
theorem dX1_applySome_1 : decode cX1_applySome 1 = .ok (.istore_n 2, 1) := by decide +kernel
theorem dX1_applySome_2 : decode cX1_applySome 2 = .ok (.aload_n 0, 1) := by decide +kernel
theorem dX1_applySome_3 : decode cX1_applySome 3 = .ok (.getfield 152, 3) := by decide +kernel
theorem dX1_applySome_6 : decode cX1_applySome 6 = .ok (.astore_n 3, 1) := by decide +kernel
theorem dX1_applySome_7 : decode cX1_applySome 7 = .ok (.aload_n 3, 1) := by decide +kernel
theorem dX1_applySome_8 : decode cX1_applySome 8 = .ok (.ifnull 105, 3) := by decide +kernel
theorem dX1_applySome_11 : decode cX1_applySome 11 = .ok (.aload_n 3, 1) := by decide +kernel
theorem dX1_applySome_12 : decode cX1_applySome 12 = .ok (.getfield 183, 3) := by decide +kernel
theorem dX1_applySome_15 : decode cX1_applySome 15 = .ok (.aload_n 0, 1) := by decide +kernel
theorem dX1_applySome_16 : decode cX1_applySome 16 = .ok (.getfield 69, 3) := by decide +kernel
theorem dX1_applySome_19 : decode cX1_applySome 19 = .ok (.if_icmp .gt 94, 3) := by decide +kernel
theorem dX1_applySome_22 : decode cX1_applySome 22 = .ok (.iload_n 2, 1) := by decide +kernel
theorem dX1_applySome_23 : decode cX1_applySome 23 = .ok (.iload_n 1, 1) := by decide +kernel
theorem dX1_applySome_24 : decode cX1_applySome 24 = .ok (.if_icmp .ge 89, 3) := by decide +kernel
theorem dX1_applySome_27 : decode cX1_applySome 27 = .ok (.aload_n 3, 1) := by decide +kernel
theorem dX1_applySome_28 : decode cX1_applySome 28 = .ok (.getfield 183, 3) := by decide +kernel
theorem dX1_applySome_31 : decode cX1_applySome 31 = .ok (.aload_n 0, 1) := by decide +kernel
theorem dX1_applySome_32 : decode cX1_applySome 32 = .ok (.getfield 72, 3) := by decide +kernel
theorem dX1_applySome_35 : decode cX1_applySome 35 = .ok (.if_icmp .le 70, 3) := by decide +kernel
theorem dX1_applySome_38 : decode cX1_applySome 38 = .ok (.iconst 0, 1) := by decide +kernel
theorem dX1_applySome_39 : decode cX1_applySome 39 = .ok (.istore 4, 2) := by decide +kernel
theorem dX1_applySome_41 : decode cX1_applySome 41 = .ok (.iload 4, 2) := by decide +kernel
theorem dX1_applySome_43 : decode cX1_applySome 43 = .ok (.aload_n 3, 1) := by decide +kernel
theorem dX1_applySome_44 : decode cX1_applySome 44 = .ok (.getfield 157, 3) := by decide +kernel
theorem dX1_applySome_47 : decode cX1_applySome 47 = .ok (.arraylength, 1) := by decide +kernel
theorem dX1_applySome_48 : decode cX1_applySome 48 = .ok (.if_icmp .ge 46, 3) := by decide +kernel
theorem dX1_applySome_51 : decode cX1_applySome 51 = .ok (.aload_n 0, 1) := by decide +kernel
theorem dX1_applySome_52 : decode cX1_applySome 52 = .ok (.aload_n 3, 1) := by decide +kernel
theorem dX1_applySome_53 : decode cX1_applySome 53 = .ok (.aload_n 3, 1) := by decide +kernel
theorem dX1_applySome_54 : decode cX1_applySome 54 = .ok (.getfield 157, 3) := by decide +kernel
theorem dX1_applySome_57 : decode cX1_applySome 57 = .ok (.iload 4, 2) := by decide +kernel
theorem dX1_applySome_59 : decode cX1_applySome 59 = .ok (.iaload, 1) := by decide +kernel
theorem dX1_applySome_60 : decode cX1_applySome 60 = .ok (.invokevirtual 199, 3) := by decide +kernel
theorem dX1_applySome_63 : decode cX1_applySome 63 = .ok (.ifCond .ne 25, 3) := by decide +kernel
theorem dX1_applySome_66 : decode cX1_applySome 66 = .ok (.aload_n 0, 1) := by decide +kernel
theorem dX1_applySome_67 : decode cX1_applySome 67 = .ok (.getfield 21, 3) := by decide +kernel
theorem dX1_applySome_70 : decode cX1_applySome 70 = .ok (.aload_n 0, 1) := by decide +kernel
theorem dX1_applySome_71 : decode cX1_applySome 71 = .ok (.getfield 25, 3) := by decide +kernel
theorem dX1_applySome_74 : decode cX1_applySome 74 = .ok (.aload_n 3, 1) := by decide +kernel
theorem dX1_applySome_75 : decode cX1_applySome 75 = .ok (.getfield 157, 3) := by decide +kernel
theorem dX1_applySome_78 : decode cX1_applySome 78 = .ok (.iload 4, 2) := by decide +kernel
theorem dX1_applySome_80 : decode cX1_applySome 80 = .ok (.iaload, 1) := by decide +kernel
theorem dX1_applySome_81 : decode cX1_applySome 81 = .ok (.invokevirtual 203, 3) := by decide +kernel
theorem dX1_applySome_84 : decode cX1_applySome 84 = .ok (.iconst 0, 1) := by decide +kernel
theorem dX1_applySome_85 : decode cX1_applySome 85 = .ok (.invokevirtual 126, 3) := by decide +kernel
theorem dX1_applySome_88 : decode cX1_applySome 88 = .ok (.iinc 4 1, 3) := by decide +kernel
theorem dX1_applySome_91 : decode cX1_applySome 91 = .ok (.goto (-50), 3) := by decide +kernel
theorem dX1_applySome_94 : decode cX1_applySome 94 = .ok (.aload_n 0, 1) := by decide +kernel
theorem dX1_applySome_95 : decode cX1_applySome 95 = .ok (.aload_n 3, 1) := by decide +kernel
theorem dX1_applySome_96 : decode cX1_applySome 96 = .ok (.getfield 183, 3) := by decide +kernel
theorem dX1_applySome_99 : decode cX1_applySome 99 = .ok (.putfield 72, 3) := by decide +kernel
theorem dX1_applySome_102 : decode cX1_applySome 102 = .ok (.iinc 2 1, 3) := by decide +kernel
theorem dX1_applySome_105 : decode cX1_applySome 105 = .ok (.aload_n 3, 1) := by decide +kernel
theorem dX1_applySome_106 : decode cX1_applySome 106 = .ok (.getfield 155, 3) := by decide +kernel
theorem dX1_applySome_109 : decode cX1_applySome 109 = .ok (.astore_n 3, 1) := by decide +kernel
theorem dX1_applySome_110 : decode cX1_applySome 110 = .ok (.goto (-103), 3) := by decide +kernel
theorem dX1_applySome_113 : decode cX1_applySome 113 = .ok (.iload_n 2, 1) := by decide +kernel
theorem dX1_applySome_114 : decode cX1_applySome 114 = .ok (.ireturn, 1) := by decide +kernel
def J_X1_applySome_113 (b0 fu : Nat)  (x2 : Int32) (σ : tM) : Option (((Int32) ⊕ Unit) × tM) := some (.inl (x2), σ)
def J_X1_applySome_105 (b0 fu : Nat) (rc7 : Nat → Int32 → Int32 → Option Nat → tM → Option (((Int32) ⊕ Unit) × tM)) (x0 : Nat) (x1 : Int32) (x2 : Int32) (x3 : Option Nat) (σ : tM) : Option (((Int32) ⊕ Unit) × tM) := omt (x3) (fun o14 => ckO b0 (σ) (o14) 7 (omt (tA (σ) (o14) 7) (fun a18 => rc7 (x0) (x1) (x2) (some (a18)) (σ)) (rc7 (x0) (x1) (x2) (none) (σ)))) (none)
def J_X1_applySome_88 (b0 fu : Nat) (rc7 : Nat → Int32 → Int32 → Option Nat → tM → Option (((Int32) ⊕ Unit) × tM)) (rc41 : Nat → Int32 → Int32 → Option Nat → Int32 → tM → Option (((Int32) ⊕ Unit) × tM)) (x0 : Nat) (x1 : Int32) (x2 : Int32) (x3 : Option Nat) (x4 : Int32) (σ : tM) : Option (((Int32) ⊕ Unit) × tM) := ltb ((x4) + Int32.ofInt 1) (fun y45 => rc41 (x0) (x1) (x2) (x3) (y45) (σ))
def L_X1_applySome_41 (b0 fu : Nat) (rc7 : Nat → Int32 → Int32 → Option Nat → tM → Option (((Int32) ⊕ Unit) × tM)) : Nat → Nat → Int32 → Int32 → Option Nat → Int32 → tM → Option (((Int32) ⊕ Unit) × tM)
  | 0, _, _, _, _, _, _ => none
  | n + 1, x0, x1, x2, x3, x4, σ => ltb (L_X1_applySome_41 b0 fu rc7 n) (fun rc41 => omt (x3) (fun o20 => ckO b0 (σ) (o20) 7 (osm (tA (σ) (o20) 4) (fun a24 => ckR b0 (σ) (a24) 0 (fun n28 => if (nI n28) ≤ (x4) then ckO b0 (σ) (x0) 1 (ltb ((x2) + Int32.ofInt 1) (fun y32 => J_X1_applySome_105 b0 fu rc7  (x0) (x1) (y32) (some (o20)) (sI (σ) (x0) 14 (tI (σ) (o20) 0)))) else osm (tA (σ) (o20) 4) (fun a33 => ckR b0 (σ) (a33) 0 (fun n37 => ckI (x4) (n37) (ckO b0 (σ) (x0) 1 (cll (m_X1_isRevokedLater b0 fu (x0) (o20) (tI (σ) (a33) ((x4).toNatClampNeg)) (σ)) (fun v41 ρ42 => if (v41) = (0) then ckO b0 (ρ42) (x0) 1 (osm (tA (ρ42) (x0) 0) (fun a48 => osm (tA (ρ42) (x0) 1) (fun a50 => ckO b0 (ρ42) (o20) 7 (osm (tA (ρ42) (o20) 4) (fun a54 => ckR b0 (ρ42) (a54) 0 (fun n58 => ckI (x4) (n58) (ckO b0 (ρ42) (a50) 5 (cll (m_X5_numberOf b0 fu (a50) (tI (ρ42) (a54) ((x4).toNatClampNeg)) (ρ42)) (fun v62 ρ63 => ckO b0 (ρ63) (a48) 0 (clx (m_X0_put b0 fu (a48) (v62) (0) (ρ63)) (fun v67 ρ68 => J_X1_applySome_88 b0 fu rc7 rc41  (x0) (x1) (x2) (some (o20)) (x4) (ρ68)))))))))))) else J_X1_applySome_88 b0 fu rc7 rc41  (x0) (x1) (x2) (some (o20)) (x4) (ρ42)))))))))) (none))
def L_X1_applySome_7 (b0 fu : Nat)  : Nat → Nat → Int32 → Int32 → Option Nat → tM → Option (((Int32) ⊕ Unit) × tM)
  | 0, _, _, _, _, _ => none
  | n + 1, x0, x1, x2, x3, σ => ltb (L_X1_applySome_7 b0 fu  n) (fun rc7 => omt (x3) (fun o5 => ckO b0 (σ) (o5) 7 (ckO b0 (σ) (x0) 1 (if (tI (σ) (x0) 13) < (tI (σ) (o5) 0) then J_X1_applySome_113 b0 fu   (x2) (σ) else if (x1) ≤ (x2) then J_X1_applySome_113 b0 fu   (x2) (σ) else if (tI (σ) (o5) 0) ≤ (tI (σ) (x0) 14) then J_X1_applySome_105 b0 fu rc7  (x0) (x1) (x2) (some (o5)) (σ) else L_X1_applySome_41 b0 fu rc7 (fu) (x0) (x1) (x2) (some (o5)) (0) (σ)))) (J_X1_applySome_113 b0 fu   (x2) (σ)))
def m_X1_applySome (b0 fu : Nat) (a0 : Nat) (p0 : Int32) (σ : tM) : Option (((Int32) ⊕ Unit) × tM) := grw σ (ckO b0 (σ) (a0) 1 (omt (tA (σ) (a0) 5) (fun a3 => L_X1_applySome_7 b0 fu  (fu) (a0) (p0) (0) (some (a3)) (σ)) (L_X1_applySome_7 b0 fu  (fu) (a0) (p0) (0) (none) (σ))))
set_option maxRecDepth 100000 in
set_option maxHeartbeats 1000000 in
theorem j_X1_applySome_113 {p : Program} {l : Launch} {e : Env} {s : State} {m : MethodId} {args : Array Value} {below : List Frame} {meth : Method} {c : Code} {D : va_G} {aC : Nat → ClassId} {b0 fu : Nat} {σ0 τ : tM} {v : (Int32) ⊕ Unit}  (C : tCx p l s m args meth c yX1_applySome.cls cX1_applySome 5 (some .int) D aC b0 σ0) (htab : ∀ x ∈ c.exceptionTable.toList, False) (hin : meth.name = yX1_applySome.name)  {x2 : Int32} {σ : tM} (hm : J_X1_applySome_113 b0 fu  x2 σ = some (v, τ)) : tX p l e s m args below meth c 5 8 133 D aC b0 σ0 (rxI "java/lang/IllegalStateException" v) τ 113 [(2, .int (x2))] [] σ := by
  unfold J_X1_applySome_113 at hm
  refine zx_iload_n C dX1_applySome_113 0 rfl ?_
  obtain ⟨rfl, rfl⟩ := ret_e hm
  exact zx_iret C rfl rfl rfl dX1_applySome_114
set_option maxRecDepth 100000 in
set_option maxHeartbeats 1000000 in
theorem j_X1_applySome_105 {p : Program} {l : Launch} {e : Env} {s : State} {m : MethodId} {args : Array Value} {below : List Frame} {meth : Method} {c : Code} {D : va_G} {aC : Nat → ClassId} {b0 fu : Nat} {σ0 τ : tM} {v : (Int32) ⊕ Unit} {rc7 : Nat → Int32 → Int32 → Option Nat → tM → Option (((Int32) ⊕ Unit) × tM)} (C : tCx p l s m args meth c yX1_applySome.cls cX1_applySome 5 (some .int) D aC b0 σ0) (htab : ∀ x ∈ c.exceptionTable.toList, False) (hin : meth.name = yX1_applySome.name) (hrc7 : ∀ (x0 : Nat) (x1 : Int32) (x2 : Int32) (x3 : Option Nat) (ρ : tM), rc7 x0 x1 x2 x3 ρ = some (v, τ) → tX p l e s m args below meth c 5 8 133 D aC b0 σ0 (rxI "java/lang/IllegalStateException" v) τ 7 [(0, .ref (x0)), (1, .int (x1)), (2, .int (x2)), (3, va_rf (x3))] [] ρ) {x0 : Nat} {x1 : Int32} {x2 : Int32} {x3 : Option Nat} {σ : tM} (hm : J_X1_applySome_105 b0 fu rc7 x0 x1 x2 x3 σ = some (v, τ)) : tX p l e s m args below meth c 5 8 133 D aC b0 σ0 (rxI "java/lang/IllegalStateException" v) τ 105 [(0, .ref (x0)), (1, .int (x1)), (2, .int (x2)), (3, va_rf (x3))] [] σ := by
  unfold J_X1_applySome_105 at hm
  rcases omt_e hm with ⟨o14, h15, hm⟩ | ⟨h15, hm⟩
  · refine zx_lv [0, 1, 2, 3] [(0, .ref (x0)), (1, .int (x1)), (2, .int (x2)), (3, .ref (o14))] (by rw [h15]; rfl) ?_
    refine zx_aload_n C dX1_applySome_105 3 rfl ?_
    obtain ⟨k16, i17, hm⟩ := ckO_e hm
    rcases omt_e hm with ⟨a18, h19, hm⟩ | ⟨h19, hm⟩
    · refine zx_get (j := 7) C tC_7 k16 i17 ⟨by decide, Or.inr ⟨_, W_4_35⟩⟩ dX1_applySome_106 (.ref a18) (rf_s h19) ?_
      refine zx_astore_n C [(3, .ref (a18)), (0, .ref (x0)), (1, .int (x1)), (2, .int (x2))] dX1_applySome_109 rfl (by decide) rfl ?_
      refine zx_goto C 7 dX1_applySome_110 (by decide) ?_
      exact zx_lv [1, 2, 3, 0] [(0, .ref (x0)), (1, .int (x1)), (2, .int (x2)), (3, va_rf (some (a18)))] rfl (hrc7 _ _ _ _ _ hm)
    · refine zx_get (j := 7) C tC_7 k16 i17 ⟨by decide, Or.inr ⟨_, W_4_35⟩⟩ dX1_applySome_106 .null (rf_n h19) ?_
      refine zx_astore_nN C [(3, .null), (0, .ref (x0)), (1, .int (x1)), (2, .int (x2))] dX1_applySome_109 rfl (by decide) rfl ?_
      refine zx_goto C 7 dX1_applySome_110 (by decide) ?_
      exact zx_lv [1, 2, 3, 0] [(0, .ref (x0)), (1, .int (x1)), (2, .int (x2)), (3, va_rf (none))] rfl (hrc7 _ _ _ _ _ hm)
  · refine zx_lv [0, 1, 2, 3] [(0, .ref (x0)), (1, .int (x1)), (2, .int (x2)), (3, .null)] (by rw [h15]; rfl) ?_
    refine zx_aload_nN C dX1_applySome_105 3 rfl ?_
    cases hm
set_option maxRecDepth 100000 in
set_option maxHeartbeats 1000000 in
theorem j_X1_applySome_88 {p : Program} {l : Launch} {e : Env} {s : State} {m : MethodId} {args : Array Value} {below : List Frame} {meth : Method} {c : Code} {D : va_G} {aC : Nat → ClassId} {b0 fu : Nat} {σ0 τ : tM} {v : (Int32) ⊕ Unit} {rc7 : Nat → Int32 → Int32 → Option Nat → tM → Option (((Int32) ⊕ Unit) × tM)} {rc41 : Nat → Int32 → Int32 → Option Nat → Int32 → tM → Option (((Int32) ⊕ Unit) × tM)} (C : tCx p l s m args meth c yX1_applySome.cls cX1_applySome 5 (some .int) D aC b0 σ0) (htab : ∀ x ∈ c.exceptionTable.toList, False) (hin : meth.name = yX1_applySome.name) (hrc7 : ∀ (x0 : Nat) (x1 : Int32) (x2 : Int32) (x3 : Option Nat) (ρ : tM), rc7 x0 x1 x2 x3 ρ = some (v, τ) → tX p l e s m args below meth c 5 8 133 D aC b0 σ0 (rxI "java/lang/IllegalStateException" v) τ 7 [(0, .ref (x0)), (1, .int (x1)), (2, .int (x2)), (3, va_rf (x3))] [] ρ) (hrc41 : ∀ (x0 : Nat) (x1 : Int32) (x2 : Int32) (x3 : Option Nat) (x4 : Int32) (ρ : tM), rc41 x0 x1 x2 x3 x4 ρ = some (v, τ) → tX p l e s m args below meth c 5 8 133 D aC b0 σ0 (rxI "java/lang/IllegalStateException" v) τ 41 [(0, .ref (x0)), (1, .int (x1)), (2, .int (x2)), (3, va_rf (x3)), (4, .int (x4))] [] ρ) {x0 : Nat} {x1 : Int32} {x2 : Int32} {x3 : Option Nat} {x4 : Int32} {σ : tM} (hm : J_X1_applySome_88 b0 fu rc7 rc41 x0 x1 x2 x3 x4 σ = some (v, τ)) : tX p l e s m args below meth c 5 8 133 D aC b0 σ0 (rxI "java/lang/IllegalStateException" v) τ 88 [(0, .ref (x0)), (1, .int (x1)), (2, .int (x2)), (3, va_rf (x3)), (4, .int (x4))] [] σ := by
  unfold J_X1_applySome_88 at hm
  obtain ⟨y45, hy45⟩ : ∃ z : Int32, z = (x4) + Int32.ofInt 1 := ⟨_, rfl⟩
  replace hm := ltb_e hm hy45
  refine zx_iinc C [(4, .int (y45)), (0, .ref (x0)), (1, .int (x1)), (2, .int (x2)), (3, va_rf (x3))] dX1_applySome_88 4 rfl hy45.symm (by decide) (by cases x3 <;> rfl) ?_
  refine zx_goto C 41 dX1_applySome_91 (by decide) ?_
  exact zx_lv [1, 2, 3, 4, 0] [(0, .ref (x0)), (1, .int (x1)), (2, .int (x2)), (3, va_rf (x3)), (4, .int (y45))] rfl (hrc41 _ _ _ _ _ _ hm)
set_option maxRecDepth 100000 in
set_option maxHeartbeats 1000000 in
theorem l_X1_applySome_41 {p : Program} {l : Launch} {e : Env} {s : State} {m : MethodId} {args : Array Value} {below : List Frame} {meth : Method} {c : Code} {D : va_G} {aC : Nat → ClassId} {b0 fu : Nat} {σ0 τ : tM} {v : (Int32) ⊕ Unit} {rc7 : Nat → Int32 → Int32 → Option Nat → tM → Option (((Int32) ⊕ Unit) × tM)} (C : tCx p l s m args meth c yX1_applySome.cls cX1_applySome 5 (some .int) D aC b0 σ0) (htab : ∀ x ∈ c.exceptionTable.toList, False) (hin : meth.name = yX1_applySome.name) (hrc7 : ∀ (x0 : Nat) (x1 : Int32) (x2 : Int32) (x3 : Option Nat) (ρ : tM), rc7 x0 x1 x2 x3 ρ = some (v, τ) → tX p l e s m args below meth c 5 8 133 D aC b0 σ0 (rxI "java/lang/IllegalStateException" v) τ 7 [(0, .ref (x0)), (1, .int (x1)), (2, .int (x2)), (3, va_rf (x3))] [] ρ) : ∀ (n : Nat) (x0 : Nat) (x1 : Int32) (x2 : Int32) (x3 : Option Nat) (x4 : Int32) (σ : tM), L_X1_applySome_41 b0 fu rc7 n x0 x1 x2 x3 x4 σ = some (v, τ) → tX p l e s m args below meth c 5 8 133 D aC b0 σ0 (rxI "java/lang/IllegalStateException" v) τ 41 [(0, .ref (x0)), (1, .int (x1)), (2, .int (x2)), (3, va_rf (x3)), (4, .int (x4))] [] σ := by
  intro n
  induction n with
  | zero => intro x0 x1 x2 x3 x4 σ hm; unfold L_X1_applySome_41 at hm; cases hm
  | succ n ih =>
    intro x0 x1 x2 x3 x4 σ hm
    unfold L_X1_applySome_41 at hm
    obtain ⟨rc41, hrc⟩ : ∃ z, z = L_X1_applySome_41 b0 fu rc7 n := ⟨_, rfl⟩
    replace hm := ltb_e hm hrc
    rw [← hrc] at ih
    have hrc41 := ih
    clear ih hrc
    refine zx_iload C dX1_applySome_41 4 rfl ?_
    rcases omt_e hm with ⟨o20, h21, hm⟩ | ⟨h21, hm⟩
    · refine zx_lv [0, 1, 2, 3, 4] [(0, .ref (x0)), (1, .int (x1)), (2, .int (x2)), (3, .ref (o20)), (4, .int (x4))] (by rw [h21]; rfl) ?_
      refine zx_aload_n C dX1_applySome_43 3 rfl ?_
      obtain ⟨k22, i23, hm⟩ := ckO_e hm
      obtain ⟨a24, h25, hm⟩ := osm_e hm
      refine zx_get (j := 4) C tC_7 k22 i23 ⟨by decide, Or.inr ⟨_, W_4_30⟩⟩ dX1_applySome_44 (.ref a24) (rf_s h25) ?_
      obtain ⟨n28, k26, i27, hm⟩ := ckR_e hm
      refine zx_alen C k26 (by decide) i27 dX1_applySome_47 ?_
      refine zx_icmp_ge C 94 dX1_applySome_48 (by decide) (fun c29 => ?_) (fun c29 => ?_)
      · replace hm := ip_e hm c29
        refine zx_aload_n C dX1_applySome_94 0 rfl ?_
        refine zx_aload_n C dX1_applySome_95 3 rfl ?_
        refine zx_get (j := 0) C tC_7 k22 i23 ⟨by decide, Or.inr ⟨_, W_4_22⟩⟩ dX1_applySome_96 (.int (tI (σ) (o20) 0)) rfl ?_
        obtain ⟨k30, i31, hm⟩ := ckO_e hm
        refine zx_put (j := 14) (ρ := sI (σ) (x0) 14 (tI (σ) (o20) 0)) C tC_1 k30 i31 ⟨by decide, Or.inl W_1_194⟩ rfl rfl rfl (sI_ok (fun _ => rfl)) dX1_applySome_99 ?_
        obtain ⟨y32, hy32⟩ : ∃ z : Int32, z = (x2) + Int32.ofInt 1 := ⟨_, rfl⟩
        replace hm := ltb_e hm hy32
        refine zx_iinc C [(2, .int (y32)), (0, .ref (x0)), (1, .int (x1)), (3, .ref (o20)), (4, .int (x4))] dX1_applySome_102 2 rfl hy32.symm (by decide) rfl ?_
        exact zx_lv [1, 2, 0, 3] [(0, .ref (x0)), (1, .int (x1)), (2, .int (y32)), (3, va_rf (some (o20)))] rfl (j_X1_applySome_105 C htab hin hrc7   hm)
      · replace hm := in_e hm c29
        refine zx_aload_n C dX1_applySome_51 0 rfl ?_
        refine zx_aload_n C dX1_applySome_52 3 rfl ?_
        refine zx_aload_n C dX1_applySome_53 3 rfl ?_
        obtain ⟨a33, h34, hm⟩ := osm_e hm
        refine zx_get (j := 4) C tC_7 k22 i23 ⟨by decide, Or.inr ⟨_, W_4_30⟩⟩ dX1_applySome_54 (.ref a33) (rf_s h34) ?_
        refine zx_iload C dX1_applySome_57 4 rfl ?_
        obtain ⟨n37, k35, i36, hm⟩ := ckR_e hm
        obtain ⟨h38, hm⟩ := ckI_e hm
        refine zx_iald C k35 i36 h38 dX1_applySome_59 ?_
        obtain ⟨k39, i40, hm⟩ := ckO_e hm
        obtain ⟨v41, ρ42, h43, hm⟩ := cll_e hm
        refine zx_callV (σ := σ) C [.ref (o20), .int (tI (σ) (a33) ((x4).toNatClampNeg))] tC_1 k39 i40 Y_X1_isRevokedLater W_3_237 W_3_239 Wp_17 (c_X1_isRevokedLater h43) (by decide) (by decide) rfl (Nat.le_of_ble_eq_true rfl) dX1_applySome_60 rfl ?_
        refine zx_if_ne C 88 dX1_applySome_63 (by decide) (fun c44 => ?_) (fun c44 => ?_)
        · replace hm := in_e hm c44
          exact zx_lv [0, 1, 2, 3, 4] [(0, .ref (x0)), (1, .int (x1)), (2, .int (x2)), (3, va_rf (some (o20))), (4, .int (x4))] rfl (j_X1_applySome_88 C htab hin hrc7 hrc41   hm)
        · replace hm := ip_e hm c44
          refine zx_aload_n C dX1_applySome_66 0 rfl ?_
          obtain ⟨k46, i47, hm⟩ := ckO_e hm
          obtain ⟨a48, h49, hm⟩ := osm_e hm
          refine zx_get (j := 0) C tC_1 k46 i47 ⟨by decide, Or.inl W_1_180⟩ dX1_applySome_67 (.ref a48) (rf_s h49) ?_
          refine zx_aload_n C dX1_applySome_70 0 rfl ?_
          obtain ⟨a50, h51, hm⟩ := osm_e hm
          refine zx_get (j := 1) C tC_1 k46 i47 ⟨by decide, Or.inl W_1_181⟩ dX1_applySome_71 (.ref a50) (rf_s h51) ?_
          refine zx_aload_n C dX1_applySome_74 3 rfl ?_
          obtain ⟨k52, i53, hm⟩ := ckO_e hm
          obtain ⟨a54, h55, hm⟩ := osm_e hm
          refine zx_get (j := 4) C tC_7 k52 i53 ⟨by decide, Or.inr ⟨_, W_4_30⟩⟩ dX1_applySome_75 (.ref a54) (rf_s h55) ?_
          refine zx_iload C dX1_applySome_78 4 rfl ?_
          obtain ⟨n58, k56, i57, hm⟩ := ckR_e hm
          obtain ⟨h59, hm⟩ := ckI_e hm
          refine zx_iald C k56 i57 h59 dX1_applySome_80 ?_
          obtain ⟨k60, i61, hm⟩ := ckO_e hm
          obtain ⟨v62, ρ63, h64, hm⟩ := cll_e hm
          refine zx_callV (σ := ρ42) C [.int (tI (ρ42) (a54) ((x4).toNatClampNeg))] tC_5 k60 i61 Y_X5_numberOf W_4_5 W_4_6 W_4_7 (c_X5_numberOf h64) (by decide) (by decide) rfl (Nat.le_of_ble_eq_true rfl) dX1_applySome_81 rfl ?_
          refine zx_iconst (v := 0) C dX1_applySome_84 (by decide) ?_
          obtain ⟨k65, i66, hm⟩ := ckO_e hm
          rcases clx_e hm with ⟨v67, ρ68, h69, hm⟩ | ⟨ρ68, h69, hm⟩
          · refine zx_callV (σ := ρ63) C [.int (v62), .int (0)] tC_0 k65 i66 Y_X0_put W_3_228 W_3_229 W_3_230 (c_X0_put h69) (by decide) (by decide) rfl (Nat.le_of_ble_eq_true rfl) dX1_applySome_85 rfl ?_
            exact zx_lv [0, 1, 2, 3, 4] [(0, .ref (x0)), (1, .int (x1)), (2, .int (x2)), (3, va_rf (some (o20))), (4, .int (x4))] rfl (j_X1_applySome_88 C htab hin hrc7 hrc41   hm)
          · cases hm
            exact zx_outV (σ := ρ63) C htab [.int (v62), .int (0)] tC_0 k65 i66 Y_X0_put W_3_228 W_3_229 W_3_230 (c_X0_put h69) rfl (by decide) (by decide) rfl (Nat.le_of_ble_eq_true rfl) dX1_applySome_85 rfl
    · refine zx_lv [0, 1, 2, 3, 4] [(0, .ref (x0)), (1, .int (x1)), (2, .int (x2)), (3, .null), (4, .int (x4))] (by rw [h21]; rfl) ?_
      refine zx_aload_nN C dX1_applySome_43 3 rfl ?_
      cases hm
set_option maxRecDepth 100000 in
set_option maxHeartbeats 1000000 in
theorem l_X1_applySome_7 {p : Program} {l : Launch} {e : Env} {s : State} {m : MethodId} {args : Array Value} {below : List Frame} {meth : Method} {c : Code} {D : va_G} {aC : Nat → ClassId} {b0 fu : Nat} {σ0 τ : tM} {v : (Int32) ⊕ Unit}  (C : tCx p l s m args meth c yX1_applySome.cls cX1_applySome 5 (some .int) D aC b0 σ0) (htab : ∀ x ∈ c.exceptionTable.toList, False) (hin : meth.name = yX1_applySome.name)  : ∀ (n : Nat) (x0 : Nat) (x1 : Int32) (x2 : Int32) (x3 : Option Nat) (σ : tM), L_X1_applySome_7 b0 fu  n x0 x1 x2 x3 σ = some (v, τ) → tX p l e s m args below meth c 5 8 133 D aC b0 σ0 (rxI "java/lang/IllegalStateException" v) τ 7 [(0, .ref (x0)), (1, .int (x1)), (2, .int (x2)), (3, va_rf (x3))] [] σ := by
  intro n
  induction n with
  | zero => intro x0 x1 x2 x3 σ hm; unfold L_X1_applySome_7 at hm; cases hm
  | succ n ih =>
    intro x0 x1 x2 x3 σ hm
    unfold L_X1_applySome_7 at hm
    obtain ⟨rc7, hrc⟩ : ∃ z, z = L_X1_applySome_7 b0 fu  n := ⟨_, rfl⟩
    replace hm := ltb_e hm hrc
    rw [← hrc] at ih
    have hrc7 := ih
    clear ih hrc
    rcases omt_e hm with ⟨o5, h6, hm⟩ | ⟨h6, hm⟩
    · refine zx_lv [0, 1, 2, 3] [(0, .ref (x0)), (1, .int (x1)), (2, .int (x2)), (3, .ref (o5))] (by rw [h6]; rfl) ?_
      refine zx_aload_n C dX1_applySome_7 3 rfl ?_
      refine zx_ifnull C dX1_applySome_8 ?_
      refine zx_aload_n C dX1_applySome_11 3 rfl ?_
      obtain ⟨k7, i8, hm⟩ := ckO_e hm
      refine zx_get (j := 0) C tC_7 k7 i8 ⟨by decide, Or.inr ⟨_, W_4_22⟩⟩ dX1_applySome_12 (.int (tI (σ) (o5) 0)) rfl ?_
      refine zx_aload_n C dX1_applySome_15 0 rfl ?_
      obtain ⟨k9, i10, hm⟩ := ckO_e hm
      refine zx_get (j := 13) C tC_1 k9 i10 ⟨by decide, Or.inl W_1_193⟩ dX1_applySome_16 (.int (tI (σ) (x0) 13)) rfl ?_
      refine zx_icmp_gt C 113 dX1_applySome_19 (by decide) (fun c11 => ?_) (fun c11 => ?_)
      · replace hm := ip_e hm c11
        exact zx_lv [2] [(2, .int (x2))] rfl (j_X1_applySome_113 C htab hin    hm)
      · replace hm := in_e hm c11
        refine zx_iload_n C dX1_applySome_22 2 rfl ?_
        refine zx_iload_n C dX1_applySome_23 1 rfl ?_
        refine zx_icmp_ge C 113 dX1_applySome_24 (by decide) (fun c12 => ?_) (fun c12 => ?_)
        · replace hm := ip_e hm c12
          exact zx_lv [2] [(2, .int (x2))] rfl (j_X1_applySome_113 C htab hin    hm)
        · replace hm := in_e hm c12
          refine zx_aload_n C dX1_applySome_27 3 rfl ?_
          refine zx_get (j := 0) C tC_7 k7 i8 ⟨by decide, Or.inr ⟨_, W_4_22⟩⟩ dX1_applySome_28 (.int (tI (σ) (o5) 0)) rfl ?_
          refine zx_aload_n C dX1_applySome_31 0 rfl ?_
          refine zx_get (j := 14) C tC_1 k9 i10 ⟨by decide, Or.inl W_1_194⟩ dX1_applySome_32 (.int (tI (σ) (x0) 14)) rfl ?_
          refine zx_icmp_le C 105 dX1_applySome_35 (by decide) (fun c13 => ?_) (fun c13 => ?_)
          · replace hm := ip_e hm c13
            exact zx_lv [0, 1, 2, 3] [(0, .ref (x0)), (1, .int (x1)), (2, .int (x2)), (3, va_rf (some (o5)))] rfl (j_X1_applySome_105 C htab hin hrc7   hm)
          · replace hm := in_e hm c13
            refine zx_iconst (v := 0) C dX1_applySome_38 (by decide) ?_
            refine zx_istore C [(4, .int (0)), (0, .ref (x0)), (1, .int (x1)), (2, .int (x2)), (3, .ref (o5))] dX1_applySome_39 (by decide) rfl ?_
            exact zx_lv [1, 2, 3, 4, 0] [(0, .ref (x0)), (1, .int (x1)), (2, .int (x2)), (3, va_rf (some (o5))), (4, .int (0))] rfl (l_X1_applySome_41 C htab hin hrc7 _ _ _ _ _ _ _ hm)
    · refine zx_lv [0, 1, 2, 3] [(0, .ref (x0)), (1, .int (x1)), (2, .int (x2)), (3, .null)] (by rw [h6]; rfl) ?_
      refine zx_aload_nN C dX1_applySome_7 3 rfl ?_
      refine zx_ifnullN C 113 dX1_applySome_8 (by decide) ?_
      exact zx_lv [2] [(2, .int (x2))] rfl (j_X1_applySome_113 C htab hin    hm)
set_option maxRecDepth 100000 in
set_option maxHeartbeats 1000000 in
theorem c_X1_applySome {l : Launch} {D : va_G} {aC : Nat → ClassId} {b0 fu : Nat} {a0 : Nat} {p0 : Int32} {σ τ : tM} {v : (Int32) ⊕ Unit} (hm : m_X1_applySome b0 fu a0 p0 σ = some (v, τ)) : tMt l D aC b0 yX1_applySome (Cond.code yX1_applySome cX1_applySome 5 (some .int)) 8 133 [.ref (a0), .int (p0)] σ (rxI "java/lang/IllegalStateException" v) τ := by
  unfold m_X1_applySome at hm
  obtain ⟨hg, hm⟩ := grw_e hm
  refine tMt_of (n := 0) rfl (Nat.le_of_ble_eq_true rfl) hg ?_
  intro p e s m below meth c C htab hin
  refine zx_lv [0, 1] [(0, .ref (a0)), (1, .int (p0))] rfl ?_
  refine zx_iconst (v := 0) C dX1_applySome_0 (by decide) ?_
  refine zx_istore_n C [(2, .int (0)), (0, .ref (a0)), (1, .int (p0))] dX1_applySome_1 rfl (by decide) rfl ?_
  refine zx_aload_n C dX1_applySome_2 1 rfl ?_
  obtain ⟨k1, i2, hm⟩ := ckO_e hm
  rcases omt_e hm with ⟨a3, h4, hm⟩ | ⟨h4, hm⟩
  · refine zx_get (j := 5) C tC_1 k1 i2 ⟨by decide, Or.inl W_1_185⟩ dX1_applySome_3 (.ref a3) (rf_s h4) ?_
    refine zx_astore_n C [(3, .ref (a3)), (2, .int (0)), (0, .ref (a0)), (1, .int (p0))] dX1_applySome_6 rfl (by decide) rfl ?_
    exact zx_lv [2, 3, 1, 0] [(0, .ref (a0)), (1, .int (p0)), (2, .int (0)), (3, va_rf (some (a3)))] rfl (l_X1_applySome_7 C htab hin  _ _ _ _ _ _ hm)
  · refine zx_get (j := 5) C tC_1 k1 i2 ⟨by decide, Or.inl W_1_185⟩ dX1_applySome_3 .null (rf_n h4) ?_
    refine zx_astore_nN C [(3, .null), (2, .int (0)), (0, .ref (a0)), (1, .int (p0))] dX1_applySome_6 rfl (by decide) rfl ?_
    exact zx_lv [2, 3, 1, 0] [(0, .ref (a0)), (1, .int (p0)), (2, .int (0)), (3, va_rf (none))] rfl (l_X1_applySome_7 C htab hin  _ _ _ _ _ _ hm)
abbrev cX1_replay : ByteArray := prog_3_method_20_code
def yX1_replay : MethodName := ⟨"SyncTree$Journal", "replay", "()I"⟩
theorem Y_X1_replay : tY yX1_replay cX1_replay 4 (some .int) 0 := ⟨W_6_120, W_1_5, ⟨by decide +kernel, by decide +kernel⟩, by decide +kernel⟩
theorem dX1_replay_0 : decode cX1_replay 0 = .ok (.aload_n 0, 1) := by decide +kernel
theorem dX1_replay_1 : decode cX1_replay 1 = .ok (.getfield 21, 3) := by decide +kernel
theorem dX1_replay_4 : decode cX1_replay 4 = .ok (.invokevirtual 209, 3) := by decide +kernel
theorem dX1_replay_7 : decode cX1_replay 7 = .ok (.aload_n 0, 1) := by decide +kernel
theorem dX1_replay_8 : decode cX1_replay 8 = .ok (.getfield 21, 3) := by decide +kernel
theorem dX1_replay_11 : decode cX1_replay 11 = .ok (.iconst 0, 1) := by decide +kernel
theorem dX1_replay_12 : decode cX1_replay 12 = .ok (.invokevirtual 212, 3) := by decide +kernel
theorem dX1_replay_15 : decode cX1_replay 15 = .ok (.istore_n 1, 1) := by decide +kernel
theorem dX1_replay_16 : decode cX1_replay 16 = .ok (.aload_n 0, 1) := by decide +kernel
theorem dX1_replay_17 : decode cX1_replay 17 = .ok (.iload_n 1, 1) := by decide +kernel
theorem dX1_replay_18 : decode cX1_replay 18 = .ok (.invokevirtual 215, 3) := by decide +kernel
theorem dX1_replay_21 : decode cX1_replay 21 = .ok (.istore_n 2, 1) := by decide +kernel
theorem dX1_replay_22 : decode cX1_replay 22 = .ok (.aload_n 0, 1) := by decide +kernel
theorem dX1_replay_23 : decode cX1_replay 23 = .ok (.iload_n 1, 1) := by decide +kernel
theorem dX1_replay_24 : decode cX1_replay 24 = .ok (.iload_n 2, 1) := by decide +kernel
theorem dX1_replay_25 : decode cX1_replay 25 = .ok (.invokevirtual 218, 3) := by decide +kernel
theorem dX1_replay_28 : decode cX1_replay 28 = .ok (.iconst 1, 1) := by decide +kernel
theorem dX1_replay_29 : decode cX1_replay 29 = .ok (.istore_n 3, 1) := by decide +kernel
theorem dX1_replay_30 : decode cX1_replay 30 = .ok (.iload_n 3, 1) := by decide +kernel
theorem dX1_replay_31 : decode cX1_replay 31 = .ok (.aload_n 0, 1) := by decide +kernel
theorem dX1_replay_32 : decode cX1_replay 32 = .ok (.getfield 25, 3) := by decide +kernel
theorem dX1_replay_35 : decode cX1_replay 35 = .ok (.getfield 36, 3) := by decide +kernel
theorem dX1_replay_38 : decode cX1_replay 38 = .ok (.if_icmp .ge 34, 3) := by decide +kernel
theorem dX1_replay_41 : decode cX1_replay 41 = .ok (.aload_n 0, 1) := by decide +kernel
theorem dX1_replay_42 : decode cX1_replay 42 = .ok (.getfield 17, 3) := by decide +kernel
theorem dX1_replay_45 : decode cX1_replay 45 = .ok (.iload_n 3, 1) := by decide +kernel
theorem dX1_replay_46 : decode cX1_replay 46 = .ok (.baload, 1) := by decide +kernel
theorem dX1_replay_47 : decode cX1_replay 47 = .ok (.ifCond .eq 19, 3) := by decide +kernel
theorem dX1_replay_50 : decode cX1_replay 50 = .ok (.aload_n 0, 1) := by decide +kernel
theorem dX1_replay_51 : decode cX1_replay 51 = .ok (.getfield 21, 3) := by decide +kernel
theorem dX1_replay_54 : decode cX1_replay 54 = .ok (.aload_n 0, 1) := by decide +kernel
theorem dX1_replay_55 : decode cX1_replay 55 = .ok (.getfield 25, 3) := by decide +kernel
theorem dX1_replay_58 : decode cX1_replay 58 = .ok (.iload_n 3, 1) := by decide +kernel
theorem dX1_replay_59 : decode cX1_replay 59 = .ok (.invokevirtual 203, 3) := by decide +kernel
theorem dX1_replay_62 : decode cX1_replay 62 = .ok (.iconst 0, 1) := by decide +kernel
theorem dX1_replay_63 : decode cX1_replay 63 = .ok (.invokevirtual 126, 3) := by decide +kernel
theorem dX1_replay_66 : decode cX1_replay 66 = .ok (.iinc 3 1, 3) := by decide +kernel
theorem dX1_replay_69 : decode cX1_replay 69 = .ok (.goto (-39), 3) := by decide +kernel
theorem dX1_replay_72 : decode cX1_replay 72 = .ok (.aload_n 0, 1) := by decide +kernel
theorem dX1_replay_73 : decode cX1_replay 73 = .ok (.getfield 21, 3) := by decide +kernel
theorem dX1_replay_76 : decode cX1_replay 76 = .ok (.invokevirtual 174, 3) := by decide +kernel
theorem dX1_replay_79 : decode cX1_replay 79 = .ok (.aload_n 0, 1) := by decide +kernel
theorem dX1_replay_80 : decode cX1_replay 80 = .ok (.getfield 21, 3) := by decide +kernel
theorem dX1_replay_83 : decode cX1_replay 83 = .ok (.iconst 0, 1) := by decide +kernel
theorem dX1_replay_84 : decode cX1_replay 84 = .ok (.iload_n 2, 1) := by decide +kernel
theorem dX1_replay_85 : decode cX1_replay 85 = .ok (.invokevirtual 126, 3) := by decide +kernel
theorem dX1_replay_88 : decode cX1_replay 88 = .ok (.aload_n 0, 1) := by decide +kernel
theorem dX1_replay_89 : decode cX1_replay 89 = .ok (.getfield 21, 3) := by decide +kernel
theorem dX1_replay_92 : decode cX1_replay 92 = .ok (.invokevirtual 174, 3) := by decide +kernel
theorem dX1_replay_95 : decode cX1_replay 95 = .ok (.aload_n 0, 1) := by decide +kernel
theorem dX1_replay_96 : decode cX1_replay 96 = .ok (.iload_n 2, 1) := by decide +kernel
theorem dX1_replay_97 : decode cX1_replay 97 = .ok (.invokevirtual 180, 3) := by decide +kernel
theorem dX1_replay_100 : decode cX1_replay 100 = .ok (.aload_n 0, 1) := by decide +kernel
theorem dX1_replay_101 : decode cX1_replay 101 = .ok (.invokevirtual 33, 3) := by decide +kernel
theorem dX1_replay_104 : decode cX1_replay 104 = .ok (.aload_n 0, 1) := by decide +kernel
theorem dX1_replay_105 : decode cX1_replay 105 = .ok (.iload_n 2, 1) := by decide +kernel
theorem dX1_replay_106 : decode cX1_replay 106 = .ok (.invokevirtual 55, 3) := by decide +kernel
theorem dX1_replay_109 : decode cX1_replay 109 = .ok (.iload_n 2, 1) := by decide +kernel
theorem dX1_replay_110 : decode cX1_replay 110 = .ok (.iload_n 1, 1) := by decide +kernel
theorem dX1_replay_111 : decode cX1_replay 111 = .ok (.isub, 1) := by decide +kernel
theorem dX1_replay_112 : decode cX1_replay 112 = .ok (.ireturn, 1) := by decide +kernel
def J_X1_replay_66 (b0 fu : Nat) (rc30 : Nat → Int32 → Int32 → Int32 → tM → Option (((Int32) ⊕ Unit) × tM)) (x0 : Nat) (x1 : Int32) (x2 : Int32) (x3 : Int32) (σ : tM) : Option (((Int32) ⊕ Unit) × tM) := ltb ((x3) + Int32.ofInt 1) (fun y86 => rc30 (x0) (x1) (x2) (y86) (σ))
def L_X1_replay_30 (b0 fu : Nat)  : Nat → Nat → Int32 → Int32 → Int32 → tM → Option (((Int32) ⊕ Unit) × tM)
  | 0, _, _, _, _, _ => none
  | n + 1, x0, x1, x2, x3, σ => ltb (L_X1_replay_30 b0 fu  n) (fun rc30 => ckO b0 (σ) (x0) 1 (osm (tA (σ) (x0) 1) (fun a31 => ckO b0 (σ) (a31) 5 (if (tI (σ) (a31) 7) ≤ (x3) then osm (tA (σ) (x0) 0) (fun a36 => ckO b0 (σ) (a36) 0 (clx (m_X0_flushCache b0 fu (a36) (σ)) (fun v40 ρ41 => ckO b0 (ρ41) (x0) 1 (osm (tA (ρ41) (x0) 0) (fun a45 => ckO b0 (ρ41) (a45) 0 (clx (m_X0_put b0 fu (a45) (0) (x2) (ρ41)) (fun v49 ρ50 => ckO b0 (ρ50) (x0) 1 (osm (tA (ρ50) (x0) 0) (fun a54 => ckO b0 (ρ50) (a54) 0 (clx (m_X0_flushCache b0 fu (a54) (ρ50)) (fun v58 ρ59 => ckO b0 (ρ59) (x0) 1 (cll (m_X1_fold b0 fu (x0) (x2) (ρ59)) (fun v63 ρ64 => ckO b0 (ρ64) (x0) 1 (cll (m_X1_dropAll b0 fu (x0) (ρ64)) (fun v68 ρ69 => ckO b0 (ρ69) (x0) 1 (cll (m_X1_restart b0 fu (x0) (x2) (ρ69)) (fun v73 ρ74 => some (.inl ((x2) - (x1)), ρ74)))))))))))))))))) else osm (tA (σ) (x0) 4) (fun a79 => ckR b0 (σ) (a79) 1 (fun n83 => ckI (x3) (n83) (if (tI (σ) (a79) ((x3).toNatClampNeg)) = (0) then J_X1_replay_66 b0 fu rc30  (x0) (x1) (x2) (x3) (σ) else osm (tA (σ) (x0) 0) (fun a87 => osm (tA (σ) (x0) 1) (fun a89 => ckO b0 (σ) (a89) 5 (cll (m_X5_numberOf b0 fu (a89) (x3) (σ)) (fun v93 ρ94 => ckO b0 (ρ94) (a87) 0 (clx (m_X0_put b0 fu (a87) (v93) (0) (ρ94)) (fun v98 ρ99 => J_X1_replay_66 b0 fu rc30  (x0) (x1) (x2) (x3) (ρ99))))))))))))))
def m_X1_replay (b0 fu : Nat) (a0 : Nat) (σ : tM) : Option (((Int32) ⊕ Unit) × tM) := grw σ (ckO b0 (σ) (a0) 1 (osm (tA (σ) (a0) 0) (fun a3 => ckO b0 (σ) (a3) 0 (cll (m_X0_settle b0 fu (a3) (σ)) (fun v7 ρ8 => ckO b0 (ρ8) (a0) 1 (osm (tA (ρ8) (a0) 0) (fun a12 => ckO b0 (ρ8) (a12) 0 (cll (m_X0_tagOf b0 fu (a12) (0) (ρ8)) (fun v16 ρ17 => ckO b0 (ρ17) (a0) 1 (cll (m_X1_lastWhole b0 fu (a0) (v16) (ρ17)) (fun v21 ρ22 => ckO b0 (ρ22) (a0) 1 (cll (m_X1_markReplayed b0 fu (a0) (v16) (v21) (ρ22)) (fun v26 ρ27 => L_X1_replay_30 b0 fu  (fu) (a0) (v16) (v21) (1) (ρ27))))))))))))))
set_option maxRecDepth 100000 in
set_option maxHeartbeats 1000000 in
theorem j_X1_replay_66 {p : Program} {l : Launch} {e : Env} {s : State} {m : MethodId} {args : Array Value} {below : List Frame} {meth : Method} {c : Code} {D : va_G} {aC : Nat → ClassId} {b0 fu : Nat} {σ0 τ : tM} {v : (Int32) ⊕ Unit} {rc30 : Nat → Int32 → Int32 → Int32 → tM → Option (((Int32) ⊕ Unit) × tM)} (C : tCx p l s m args meth c yX1_replay.cls cX1_replay 4 (some .int) D aC b0 σ0) (htab : ∀ x ∈ c.exceptionTable.toList, False) (hin : meth.name = yX1_replay.name) (hrc30 : ∀ (x0 : Nat) (x1 : Int32) (x2 : Int32) (x3 : Int32) (ρ : tM), rc30 x0 x1 x2 x3 ρ = some (v, τ) → tX p l e s m args below meth c 4 8 133 D aC b0 σ0 (rxI "java/lang/IllegalStateException" v) τ 30 [(0, .ref (x0)), (1, .int (x1)), (2, .int (x2)), (3, .int (x3))] [] ρ) {x0 : Nat} {x1 : Int32} {x2 : Int32} {x3 : Int32} {σ : tM} (hm : J_X1_replay_66 b0 fu rc30 x0 x1 x2 x3 σ = some (v, τ)) : tX p l e s m args below meth c 4 8 133 D aC b0 σ0 (rxI "java/lang/IllegalStateException" v) τ 66 [(0, .ref (x0)), (1, .int (x1)), (2, .int (x2)), (3, .int (x3))] [] σ := by
  unfold J_X1_replay_66 at hm
  obtain ⟨y86, hy86⟩ : ∃ z : Int32, z = (x3) + Int32.ofInt 1 := ⟨_, rfl⟩
  replace hm := ltb_e hm hy86
  refine zx_iinc C [(3, .int (y86)), (0, .ref (x0)), (1, .int (x1)), (2, .int (x2))] dX1_replay_66 3 rfl hy86.symm (by decide) rfl ?_
  refine zx_goto C 30 dX1_replay_69 (by decide) ?_
  exact zx_lv [1, 2, 3, 0] [(0, .ref (x0)), (1, .int (x1)), (2, .int (x2)), (3, .int (y86))] rfl (hrc30 _ _ _ _ _ hm)
set_option maxRecDepth 100000 in
set_option maxHeartbeats 1000000 in
theorem l_X1_replay_30 {p : Program} {l : Launch} {e : Env} {s : State} {m : MethodId} {args : Array Value} {below : List Frame} {meth : Method} {c : Code} {D : va_G} {aC : Nat → ClassId} {b0 fu : Nat} {σ0 τ : tM} {v : (Int32) ⊕ Unit}  (C : tCx p l s m args meth c yX1_replay.cls cX1_replay 4 (some .int) D aC b0 σ0) (htab : ∀ x ∈ c.exceptionTable.toList, False) (hin : meth.name = yX1_replay.name)  : ∀ (n : Nat) (x0 : Nat) (x1 : Int32) (x2 : Int32) (x3 : Int32) (σ : tM), L_X1_replay_30 b0 fu  n x0 x1 x2 x3 σ = some (v, τ) → tX p l e s m args below meth c 4 8 133 D aC b0 σ0 (rxI "java/lang/IllegalStateException" v) τ 30 [(0, .ref (x0)), (1, .int (x1)), (2, .int (x2)), (3, .int (x3))] [] σ := by
  intro n
  induction n with
  | zero => intro x0 x1 x2 x3 σ hm; unfold L_X1_replay_30 at hm; cases hm
  | succ n ih =>
    intro x0 x1 x2 x3 σ hm
    unfold L_X1_replay_30 at hm
    obtain ⟨rc30, hrc⟩ : ∃ z, z = L_X1_replay_30 b0 fu  n := ⟨_, rfl⟩
    replace hm := ltb_e hm hrc
    rw [← hrc] at ih
    have hrc30 := ih
    clear ih hrc
    refine zx_iload_n C dX1_replay_30 3 rfl ?_
    refine zx_aload_n C dX1_replay_31 0 rfl ?_
    obtain ⟨k29, i30, hm⟩ := ckO_e hm
    obtain ⟨a31, h32, hm⟩ := osm_e hm
    refine zx_get (j := 1) C tC_1 k29 i30 ⟨by decide, Or.inl W_1_181⟩ dX1_replay_32 (.ref a31) (rf_s h32) ?_
    obtain ⟨k33, i34, hm⟩ := ckO_e hm
    refine zx_get (j := 7) C tC_5 k33 i34 ⟨by decide, Or.inr ⟨_, W_1_103⟩⟩ dX1_replay_35 (.int (tI (σ) (a31) 7)) rfl ?_
    refine zx_icmp_ge C 72 dX1_replay_38 (by decide) (fun c35 => ?_) (fun c35 => ?_)
    · replace hm := ip_e hm c35
      refine zx_aload_n C dX1_replay_72 0 rfl ?_
      obtain ⟨a36, h37, hm⟩ := osm_e hm
      refine zx_get (j := 0) C tC_1 k29 i30 ⟨by decide, Or.inl W_1_180⟩ dX1_replay_73 (.ref a36) (rf_s h37) ?_
      obtain ⟨k38, i39, hm⟩ := ckO_e hm
      rcases clx_e hm with ⟨v40, ρ41, h42, hm⟩ | ⟨ρ41, h42, hm⟩
      · refine zx_callV (σ := σ) C [] tC_0 k38 i39 Y_X0_flushCache W_3_195 W_3_196 W_3_197 (c_X0_flushCache h42) (by decide) (by decide) rfl (Nat.le_of_ble_eq_true rfl) dX1_replay_76 rfl ?_
        refine zx_aload_n C dX1_replay_79 0 rfl ?_
        obtain ⟨k43, i44, hm⟩ := ckO_e hm
        obtain ⟨a45, h46, hm⟩ := osm_e hm
        refine zx_get (j := 0) C tC_1 k43 i44 ⟨by decide, Or.inl W_1_180⟩ dX1_replay_80 (.ref a45) (rf_s h46) ?_
        refine zx_iconst (v := 0) C dX1_replay_83 (by decide) ?_
        refine zx_iload_n C dX1_replay_84 2 rfl ?_
        obtain ⟨k47, i48, hm⟩ := ckO_e hm
        rcases clx_e hm with ⟨v49, ρ50, h51, hm⟩ | ⟨ρ50, h51, hm⟩
        · refine zx_callV (σ := ρ41) C [.int (0), .int (x2)] tC_0 k47 i48 Y_X0_put W_3_228 W_3_229 W_3_230 (c_X0_put h51) (by decide) (by decide) rfl (Nat.le_of_ble_eq_true rfl) dX1_replay_85 rfl ?_
          refine zx_aload_n C dX1_replay_88 0 rfl ?_
          obtain ⟨k52, i53, hm⟩ := ckO_e hm
          obtain ⟨a54, h55, hm⟩ := osm_e hm
          refine zx_get (j := 0) C tC_1 k52 i53 ⟨by decide, Or.inl W_1_180⟩ dX1_replay_89 (.ref a54) (rf_s h55) ?_
          obtain ⟨k56, i57, hm⟩ := ckO_e hm
          rcases clx_e hm with ⟨v58, ρ59, h60, hm⟩ | ⟨ρ59, h60, hm⟩
          · refine zx_callV (σ := ρ50) C [] tC_0 k56 i57 Y_X0_flushCache W_3_195 W_3_196 W_3_197 (c_X0_flushCache h60) (by decide) (by decide) rfl (Nat.le_of_ble_eq_true rfl) dX1_replay_92 rfl ?_
            refine zx_aload_n C dX1_replay_95 0 rfl ?_
            refine zx_iload_n C dX1_replay_96 2 rfl ?_
            obtain ⟨k61, i62, hm⟩ := ckO_e hm
            obtain ⟨v63, ρ64, h65, hm⟩ := cll_e hm
            refine zx_callV (σ := ρ59) C [.int (x2)] tC_1 k61 i62 Y_X1_fold W_3_220 W_3_222 Wp_15 (c_X1_fold h65) (by decide) (by decide) rfl (Nat.le_of_ble_eq_true rfl) dX1_replay_97 rfl ?_
            refine zx_aload_n C dX1_replay_100 0 rfl ?_
            obtain ⟨k66, i67, hm⟩ := ckO_e hm
            obtain ⟨v68, ρ69, h70, hm⟩ := cll_e hm
            refine zx_callV (σ := ρ64) C [] tC_1 k66 i67 Y_X1_dropAll W_2_89 W_2_91 Wp_1 (c_X1_dropAll h70) (by decide) (by decide) rfl (Nat.le_of_ble_eq_true rfl) dX1_replay_101 rfl ?_
            refine zx_aload_n C dX1_replay_104 0 rfl ?_
            refine zx_iload_n C dX1_replay_105 2 rfl ?_
            obtain ⟨k71, i72, hm⟩ := ckO_e hm
            obtain ⟨v73, ρ74, h75, hm⟩ := cll_e hm
            refine zx_callV (σ := ρ69) C [.int (x2)] tC_1 k71 i72 Y_X1_restart W_2_168 W_2_170 Wp_8 (c_X1_restart h75) (by decide) (by decide) rfl (Nat.le_of_ble_eq_true rfl) dX1_replay_106 rfl ?_
            refine zx_iload_n C dX1_replay_109 2 rfl ?_
            refine zx_iload_n C dX1_replay_110 1 rfl ?_
            refine zx_isub C dX1_replay_111 ?_
            obtain ⟨rfl, rfl⟩ := ret_e hm
            exact zx_iret C rfl rfl rfl dX1_replay_112
          · cases hm
            exact zx_outV (σ := ρ50) C htab [] tC_0 k56 i57 Y_X0_flushCache W_3_195 W_3_196 W_3_197 (c_X0_flushCache h60) rfl (by decide) (by decide) rfl (Nat.le_of_ble_eq_true rfl) dX1_replay_92 rfl
        · cases hm
          exact zx_outV (σ := ρ41) C htab [.int (0), .int (x2)] tC_0 k47 i48 Y_X0_put W_3_228 W_3_229 W_3_230 (c_X0_put h51) rfl (by decide) (by decide) rfl (Nat.le_of_ble_eq_true rfl) dX1_replay_85 rfl
      · cases hm
        exact zx_outV (σ := σ) C htab [] tC_0 k38 i39 Y_X0_flushCache W_3_195 W_3_196 W_3_197 (c_X0_flushCache h42) rfl (by decide) (by decide) rfl (Nat.le_of_ble_eq_true rfl) dX1_replay_76 rfl
    · replace hm := in_e hm c35
      refine zx_aload_n C dX1_replay_41 0 rfl ?_
      obtain ⟨a79, h80, hm⟩ := osm_e hm
      refine zx_get (j := 4) C tC_1 k29 i30 ⟨by decide, Or.inl W_1_184⟩ dX1_replay_42 (.ref a79) (rf_s h80) ?_
      refine zx_iload_n C dX1_replay_45 3 rfl ?_
      obtain ⟨n83, k81, i82, hm⟩ := ckR_e hm
      obtain ⟨h84, hm⟩ := ckI_e hm
      refine zx_bald C k81 i82 h84 dX1_replay_46 ?_
      refine zx_if_eq C 66 dX1_replay_47 (by decide) (fun c85 => ?_) (fun c85 => ?_)
      · replace hm := ip_e hm c85
        exact zx_lv [0, 1, 2, 3] [(0, .ref (x0)), (1, .int (x1)), (2, .int (x2)), (3, .int (x3))] rfl (j_X1_replay_66 C htab hin hrc30   hm)
      · replace hm := in_e hm c85
        refine zx_aload_n C dX1_replay_50 0 rfl ?_
        obtain ⟨a87, h88, hm⟩ := osm_e hm
        refine zx_get (j := 0) C tC_1 k29 i30 ⟨by decide, Or.inl W_1_180⟩ dX1_replay_51 (.ref a87) (rf_s h88) ?_
        refine zx_aload_n C dX1_replay_54 0 rfl ?_
        obtain ⟨a89, h90, hm⟩ := osm_e hm
        refine zx_get (j := 1) C tC_1 k29 i30 ⟨by decide, Or.inl W_1_181⟩ dX1_replay_55 (.ref a89) (rf_s h90) ?_
        refine zx_iload_n C dX1_replay_58 3 rfl ?_
        obtain ⟨k91, i92, hm⟩ := ckO_e hm
        obtain ⟨v93, ρ94, h95, hm⟩ := cll_e hm
        refine zx_callV (σ := σ) C [.int (x3)] tC_5 k91 i92 Y_X5_numberOf W_4_5 W_4_6 W_4_7 (c_X5_numberOf h95) (by decide) (by decide) rfl (Nat.le_of_ble_eq_true rfl) dX1_replay_59 rfl ?_
        refine zx_iconst (v := 0) C dX1_replay_62 (by decide) ?_
        obtain ⟨k96, i97, hm⟩ := ckO_e hm
        rcases clx_e hm with ⟨v98, ρ99, h100, hm⟩ | ⟨ρ99, h100, hm⟩
        · refine zx_callV (σ := ρ94) C [.int (v93), .int (0)] tC_0 k96 i97 Y_X0_put W_3_228 W_3_229 W_3_230 (c_X0_put h100) (by decide) (by decide) rfl (Nat.le_of_ble_eq_true rfl) dX1_replay_63 rfl ?_
          exact zx_lv [0, 1, 2, 3] [(0, .ref (x0)), (1, .int (x1)), (2, .int (x2)), (3, .int (x3))] rfl (j_X1_replay_66 C htab hin hrc30   hm)
        · cases hm
          exact zx_outV (σ := ρ94) C htab [.int (v93), .int (0)] tC_0 k96 i97 Y_X0_put W_3_228 W_3_229 W_3_230 (c_X0_put h100) rfl (by decide) (by decide) rfl (Nat.le_of_ble_eq_true rfl) dX1_replay_63 rfl
set_option maxRecDepth 100000 in
set_option maxHeartbeats 1000000 in
theorem c_X1_replay {l : Launch} {D : va_G} {aC : Nat → ClassId} {b0 fu : Nat} {a0 : Nat} {σ τ : tM} {v : (Int32) ⊕ Unit} (hm : m_X1_replay b0 fu a0 σ = some (v, τ)) : tMt l D aC b0 yX1_replay (Cond.code yX1_replay cX1_replay 4 (some .int)) 8 133 [.ref (a0)] σ (rxI "java/lang/IllegalStateException" v) τ := by
  unfold m_X1_replay at hm
  obtain ⟨hg, hm⟩ := grw_e hm
  refine tMt_of (n := 0) rfl (Nat.le_of_ble_eq_true rfl) hg ?_
  intro p e s m below meth c C htab hin
  refine zx_lv [0] [(0, .ref (a0))] rfl ?_
  refine zx_aload_n C dX1_replay_0 0 rfl ?_
  obtain ⟨k1, i2, hm⟩ := ckO_e hm
  obtain ⟨a3, h4, hm⟩ := osm_e hm
  refine zx_get (j := 0) C tC_1 k1 i2 ⟨by decide, Or.inl W_1_180⟩ dX1_replay_1 (.ref a3) (rf_s h4) ?_
  obtain ⟨k5, i6, hm⟩ := ckO_e hm
  obtain ⟨v7, ρ8, h9, hm⟩ := cll_e hm
  refine zx_callV (σ := σ) C [] tC_0 k5 i6 Y_X0_settle W_6_121 W_6_122 W_6_123 (c_X0_settle h9) (by decide) (by decide) rfl (Nat.le_of_ble_eq_true rfl) dX1_replay_4 rfl ?_
  refine zx_aload_n C dX1_replay_7 0 rfl ?_
  obtain ⟨k10, i11, hm⟩ := ckO_e hm
  obtain ⟨a12, h13, hm⟩ := osm_e hm
  refine zx_get (j := 0) C tC_1 k10 i11 ⟨by decide, Or.inl W_1_180⟩ dX1_replay_8 (.ref a12) (rf_s h13) ?_
  refine zx_iconst (v := 0) C dX1_replay_11 (by decide) ?_
  obtain ⟨k14, i15, hm⟩ := ckO_e hm
  obtain ⟨v16, ρ17, h18, hm⟩ := cll_e hm
  refine zx_callV (σ := ρ8) C [.int (0)] tC_0 k14 i15 Y_X0_tagOf W_6_125 W_6_126 W_6_127 (c_X0_tagOf h18) (by decide) (by decide) rfl (Nat.le_of_ble_eq_true rfl) dX1_replay_12 rfl ?_
  refine zx_istore_n C [(1, .int (v16)), (0, .ref (a0))] dX1_replay_15 rfl (by decide) rfl ?_
  refine zx_aload_n C dX1_replay_16 1 rfl ?_
  refine zx_iload_n C dX1_replay_17 0 rfl ?_
  obtain ⟨k19, i20, hm⟩ := ckO_e hm
  obtain ⟨v21, ρ22, h23, hm⟩ := cll_e hm
  refine zx_callV (σ := ρ17) C [.int (v16)] tC_1 k19 i20 Y_X1_lastWhole W_6_129 W_6_131 Wp_46 (c_X1_lastWhole h23) (by decide) (by decide) rfl (Nat.le_of_ble_eq_true rfl) dX1_replay_18 rfl ?_
  refine zx_istore_n C [(2, .int (v21)), (1, .int (v16)), (0, .ref (a0))] dX1_replay_21 rfl (by decide) rfl ?_
  refine zx_aload_n C dX1_replay_22 2 rfl ?_
  refine zx_iload_n C dX1_replay_23 1 rfl ?_
  refine zx_iload_n C dX1_replay_24 0 rfl ?_
  obtain ⟨k24, i25, hm⟩ := ckO_e hm
  obtain ⟨v26, ρ27, h28, hm⟩ := cll_e hm
  refine zx_callV (σ := ρ22) C [.int (v16), .int (v21)] tC_1 k24 i25 Y_X1_markReplayed W_6_137 W_6_139 Wp_48 (c_X1_markReplayed h28) (by decide) (by decide) rfl (Nat.le_of_ble_eq_true rfl) dX1_replay_25 rfl ?_
  refine zx_iconst (v := 1) C dX1_replay_28 (by decide) ?_
  refine zx_istore_n C [(3, .int (1)), (2, .int (v21)), (1, .int (v16)), (0, .ref (a0))] dX1_replay_29 rfl (by decide) rfl ?_
  exact zx_lv [3, 2, 1, 0] [(0, .ref (a0)), (1, .int (v16)), (2, .int (v21)), (3, .int (1))] rfl (l_X1_replay_30 C htab hin  _ _ _ _ _ _ hm)
abbrev cX2_loadBlock : ByteArray := prog_4_method_5_code
def yX2_loadBlock : MethodName := ⟨"SyncTree$Loader", "loadBlock", "(IJ)V"⟩
theorem Y_X2_loadBlock : tY yX2_loadBlock cX2_loadBlock 6 none 2 := ⟨W_6_165, W_1_6, ⟨by decide +kernel, by decide +kernel⟩, by decide +kernel⟩
theorem dX2_loadBlock_0 : decode cX2_loadBlock 0 = .ok (.lload_n 2, 1) := by decide +kernel
theorem dX2_loadBlock_1 : decode cX2_loadBlock 1 = .ok (.lconst 0, 1) := by decide +kernel
theorem dX2_loadBlock_2 : decode cX2_loadBlock 2 = .ok (.lcmp, 1) := by decide +kernel
theorem dX2_loadBlock_3 : decode cX2_loadBlock 3 = .ok (.ifCond .ne 4, 3) := by decide +kernel
theorem dX2_loadBlock_6 : decode cX2_loadBlock 6 = .ok (.return_, 1) := by decide +kernel
theorem dX2_loadBlock_7 : decode cX2_loadBlock 7 = .ok (.aload_n 0, 1) := by decide +kernel
theorem dX2_loadBlock_8 : decode cX2_loadBlock 8 = .ok (.getfield 19, 3) := by decide +kernel
theorem dX2_loadBlock_11 : decode cX2_loadBlock 11 = .ok (.iload_n 1, 1) := by decide +kernel
theorem dX2_loadBlock_12 : decode cX2_loadBlock 12 = .ok (.invokevirtual 42, 3) := by decide +kernel
theorem dX2_loadBlock_15 : decode cX2_loadBlock 15 = .ok (.iconst 2, 1) := by decide +kernel
theorem dX2_loadBlock_16 : decode cX2_loadBlock 16 = .ok (.if_icmp .ne 10, 3) := by decide +kernel
theorem dX2_loadBlock_19 : decode cX2_loadBlock 19 = .ok (.aload_n 0, 1) := by decide +kernel
theorem dX2_loadBlock_20 : decode cX2_loadBlock 20 = .ok (.iload_n 1, 1) := by decide +kernel
theorem dX2_loadBlock_21 : decode cX2_loadBlock 21 = .ok (.lload_n 2, 1) := by decide +kernel
theorem dX2_loadBlock_22 : decode cX2_loadBlock 22 = .ok (.invokevirtual 63, 3) := by decide +kernel
theorem dX2_loadBlock_25 : decode cX2_loadBlock 25 = .ok (.return_, 1) := by decide +kernel
theorem dX2_loadBlock_26 : decode cX2_loadBlock 26 = .ok (.lload_n 2, 1) := by decide +kernel
theorem dX2_loadBlock_27 : decode cX2_loadBlock 27 = .ok (.invokestatic 66, 3) := by decide +kernel
theorem dX2_loadBlock_30 : decode cX2_loadBlock 30 = .ok (.istore 4, 2) := by decide +kernel
theorem dX2_loadBlock_32 : decode cX2_loadBlock 32 = .ok (.lload_n 2, 1) := by decide +kernel
theorem dX2_loadBlock_33 : decode cX2_loadBlock 33 = .ok (.invokestatic 73, 3) := by decide +kernel
theorem dX2_loadBlock_36 : decode cX2_loadBlock 36 = .ok (.istore 5, 2) := by decide +kernel
theorem dX2_loadBlock_38 : decode cX2_loadBlock 38 = .ok (.aload_n 0, 1) := by decide +kernel
theorem dX2_loadBlock_39 : decode cX2_loadBlock 39 = .ok (.getfield 15, 3) := by decide +kernel
theorem dX2_loadBlock_42 : decode cX2_loadBlock 42 = .ok (.iload 4, 2) := by decide +kernel
theorem dX2_loadBlock_44 : decode cX2_loadBlock 44 = .ok (.iload 5, 2) := by decide +kernel
theorem dX2_loadBlock_46 : decode cX2_loadBlock 46 = .ok (.iload_n 1, 1) := by decide +kernel
theorem dX2_loadBlock_47 : decode cX2_loadBlock 47 = .ok (.invokevirtual 76, 3) := by decide +kernel
theorem dX2_loadBlock_50 : decode cX2_loadBlock 50 = .ok (.aload_n 0, 1) := by decide +kernel
theorem dX2_loadBlock_51 : decode cX2_loadBlock 51 = .ok (.getfield 15, 3) := by decide +kernel
theorem dX2_loadBlock_54 : decode cX2_loadBlock 54 = .ok (.iload 4, 2) := by decide +kernel
theorem dX2_loadBlock_56 : decode cX2_loadBlock 56 = .ok (.aload_n 0, 1) := by decide +kernel
theorem dX2_loadBlock_57 : decode cX2_loadBlock 57 = .ok (.getfield 9, 3) := by decide +kernel
theorem dX2_loadBlock_60 : decode cX2_loadBlock 60 = .ok (.aload_n 0, 1) := by decide +kernel
theorem dX2_loadBlock_61 : decode cX2_loadBlock 61 = .ok (.getfield 15, 3) := by decide +kernel
theorem dX2_loadBlock_64 : decode cX2_loadBlock 64 = .ok (.iload 4, 2) := by decide +kernel
theorem dX2_loadBlock_66 : decode cX2_loadBlock 66 = .ok (.invokevirtual 80, 3) := by decide +kernel
theorem dX2_loadBlock_69 : decode cX2_loadBlock 69 = .ok (.iload 5, 2) := by decide +kernel
theorem dX2_loadBlock_71 : decode cX2_loadBlock 71 = .ok (.invokevirtual 83, 3) := by decide +kernel
theorem dX2_loadBlock_74 : decode cX2_loadBlock 74 = .ok (.invokevirtual 33, 3) := by decide +kernel
theorem dX2_loadBlock_77 : decode cX2_loadBlock 77 = .ok (.return_, 1) := by decide +kernel
def m_X2_loadBlock (b0 fu : Nat) (a0 : Nat) (p0 : Int32) (p1 : Int64) (σ : tM) : Option ((Unit) × tM) := grw σ (if (lg_cmp (p1) (0)) = (0) then some ((), σ) else ckO b0 (σ) (a0) 2 (osm (tA (σ) (a0) 2) (fun a4 => ckO b0 (σ) (a4) 8 (cll (m_X8_kind b0 fu (a4) (p0) (σ)) (fun v8 ρ9 => if (v8) = (2) then ckO b0 (ρ9) (a0) 2 (cll (m_X2_loadMeta b0 fu (a0) (p0) (p1) (ρ9)) (fun v59 ρ60 => some ((), ρ60))) else cll (m_X8_cellOf b0 fu (p1) (ρ9)) (fun v12 ρ13 => cll (m_X8_birthOf b0 fu (p1) (ρ13)) (fun v15 ρ16 => ckO b0 (ρ16) (a0) 2 (osm (tA (ρ16) (a0) 1) (fun a20 => ckO b0 (ρ16) (a20) 5 (cll (m_X5_adopt b0 fu (a20) (v12) (v15) (p0) (ρ16)) (fun v24 ρ25 => ckO b0 (ρ25) (a0) 2 (osm (tA (ρ25) (a0) 1) (fun a29 => osm (tA (ρ25) (a0) 0) (fun a31 => osm (tA (ρ25) (a0) 1) (fun a33 => ckO b0 (ρ25) (a33) 5 (cll (m_X5_numberOf b0 fu (a33) (v12) (ρ25)) (fun v37 ρ38 => ckO b0 (ρ38) (a31) 0 (cll (m_X0_keptSince b0 fu (a31) (v37) (v15) (ρ38)) (fun v42 ρ43 => omt v42 (fun a45 => ckO b0 (ρ43) (a29) 5 (cll (m_X5_load b0 fu (a29) (v12) (some (a45)) (ρ43)) (fun v49 ρ50 => some ((), ρ50)))) (ckO b0 (ρ43) (a29) 5 (cll (m_X5_load b0 fu (a29) (v12) (none) (ρ43)) (fun v54 ρ55 => some ((), ρ55)))))))))))))))))))))))
set_option maxRecDepth 100000 in
set_option maxHeartbeats 1000000 in
theorem c_X2_loadBlock {l : Launch} {D : va_G} {aC : Nat → ClassId} {b0 fu : Nat} {a0 : Nat} {p0 : Int32} {p1 : Int64} {σ τ : tM} {v : Unit} (hm : m_X2_loadBlock b0 fu a0 p0 p1 σ = some (v, τ)) : tMt l D aC b0 yX2_loadBlock (Cond.code yX2_loadBlock cX2_loadBlock 6 none) 3 73 [.ref (a0), .int (p0), .long (p1)] σ (.inl none) τ := by
  unfold m_X2_loadBlock at hm
  obtain ⟨hg, hm⟩ := grw_e hm
  refine tMt_of (n := 0) rfl (Nat.le_of_ble_eq_true rfl) hg ?_
  intro p e s m below meth c C htab hin
  refine zx_lv [0, 1, 2] [(0, .ref (a0)), (1, .int (p0)), (2, .long (p1))] rfl ?_
  refine zx_lload_n C dX2_loadBlock_0 2 rfl ?_
  refine zx_lconst (v := 0) C dX2_loadBlock_1 (by decide) ?_
  refine zx_lcmp C dX2_loadBlock_2 ?_
  refine zx_if_ne C 7 dX2_loadBlock_3 (by decide) (fun c1 => ?_) (fun c1 => ?_)
  · replace hm := in_e hm c1
    refine zx_aload_n C dX2_loadBlock_7 0 rfl ?_
    obtain ⟨k2, i3, hm⟩ := ckO_e hm
    obtain ⟨a4, h5, hm⟩ := osm_e hm
    refine zx_get (j := 2) C tC_2 k2 i3 ⟨by decide, Or.inl W_2_3⟩ dX2_loadBlock_8 (.ref a4) (rf_s h5) ?_
    refine zx_iload_n C dX2_loadBlock_11 1 rfl ?_
    obtain ⟨k6, i7, hm⟩ := ckO_e hm
    obtain ⟨v8, ρ9, h10, hm⟩ := cll_e hm
    refine zx_callV (σ := σ) C [.int (p0)] tC_8 k6 i7 Y_X8_kind W_6_156 W_3_80 W_3_81 (c_X8_kind h10) (by decide) (by decide) rfl (Nat.le_of_ble_eq_true rfl) dX2_loadBlock_12 rfl ?_
    refine zx_iconst (v := 2) C dX2_loadBlock_15 (by decide) ?_
    refine zx_icmp_ne C 26 dX2_loadBlock_16 (by decide) (fun c11 => ?_) (fun c11 => ?_)
    · replace hm := in_e hm c11
      refine zx_lload_n C dX2_loadBlock_26 2 rfl ?_
      obtain ⟨v12, ρ13, h14, hm⟩ := cll_e hm
      refine zx_callS (σ := ρ9) C [.long (p1)] Y_X8_cellOf W_6_170 W_4_118 (c_X8_cellOf h14) (by decide) (by decide) rfl (Nat.le_of_ble_eq_true rfl) dX2_loadBlock_27 rfl ?_
      refine zx_istore C [(4, .int (v12)), (0, .ref (a0)), (1, .int (p0)), (2, .long (p1))] dX2_loadBlock_30 (by decide) rfl ?_
      refine zx_lload_n C dX2_loadBlock_32 3 rfl ?_
      obtain ⟨v15, ρ16, h17, hm⟩ := cll_e hm
      refine zx_callS (σ := ρ13) C [.long (p1)] Y_X8_birthOf W_6_171 W_6_172 (c_X8_birthOf h17) (by decide) (by decide) rfl (Nat.le_of_ble_eq_true rfl) dX2_loadBlock_33 rfl ?_
      refine zx_istore C [(5, .int (v15)), (4, .int (v12)), (0, .ref (a0)), (1, .int (p0)), (2, .long (p1))] dX2_loadBlock_36 (by decide) rfl ?_
      refine zx_aload_n C dX2_loadBlock_38 2 rfl ?_
      obtain ⟨k18, i19, hm⟩ := ckO_e hm
      obtain ⟨a20, h21, hm⟩ := osm_e hm
      refine zx_get (j := 1) C tC_2 k18 i19 ⟨by decide, Or.inl W_2_2⟩ dX2_loadBlock_39 (.ref a20) (rf_s h21) ?_
      refine zx_iload C dX2_loadBlock_42 1 rfl ?_
      refine zx_iload C dX2_loadBlock_44 0 rfl ?_
      refine zx_iload_n C dX2_loadBlock_46 3 rfl ?_
      obtain ⟨k22, i23, hm⟩ := ckO_e hm
      obtain ⟨v24, ρ25, h26, hm⟩ := cll_e hm
      refine zx_callV (σ := ρ16) C [.int (v12), .int (v15), .int (p0)] tC_5 k22 i23 Y_X5_adopt W_6_174 W_4_208 W_4_209 (c_X5_adopt h26) (by decide) (by decide) rfl (Nat.le_of_ble_eq_true rfl) dX2_loadBlock_47 rfl ?_
      refine zx_aload_n C dX2_loadBlock_50 2 rfl ?_
      obtain ⟨k27, i28, hm⟩ := ckO_e hm
      obtain ⟨a29, h30, hm⟩ := osm_e hm
      refine zx_get (j := 1) C tC_2 k27 i28 ⟨by decide, Or.inl W_2_2⟩ dX2_loadBlock_51 (.ref a29) (rf_s h30) ?_
      refine zx_iload C dX2_loadBlock_54 1 rfl ?_
      refine zx_aload_n C dX2_loadBlock_56 2 rfl ?_
      obtain ⟨a31, h32, hm⟩ := osm_e hm
      refine zx_get (j := 0) C tC_2 k27 i28 ⟨by decide, Or.inl W_2_1⟩ dX2_loadBlock_57 (.ref a31) (rf_s h32) ?_
      refine zx_aload_n C dX2_loadBlock_60 2 rfl ?_
      obtain ⟨a33, h34, hm⟩ := osm_e hm
      refine zx_get (j := 1) C tC_2 k27 i28 ⟨by decide, Or.inl W_2_2⟩ dX2_loadBlock_61 (.ref a33) (rf_s h34) ?_
      refine zx_iload C dX2_loadBlock_64 1 rfl ?_
      obtain ⟨k35, i36, hm⟩ := ckO_e hm
      obtain ⟨v37, ρ38, h39, hm⟩ := cll_e hm
      refine zx_callV (σ := ρ25) C [.int (v12)] tC_5 k35 i36 Y_X5_numberOf W_6_175 W_4_6 W_4_7 (c_X5_numberOf h39) (by decide) (by decide) rfl (Nat.le_of_ble_eq_true rfl) dX2_loadBlock_66 rfl ?_
      refine zx_iload C dX2_loadBlock_69 0 rfl ?_
      obtain ⟨k40, i41, hm⟩ := ckO_e hm
      obtain ⟨v42, ρ43, h44, hm⟩ := cll_e hm
      rcases omt_e hm with ⟨a45, h46, hm⟩ | ⟨h46, hm⟩
      · subst h46
        refine zx_callV (σ := ρ38) C [.int (v37), .int (v15)] tC_0 k40 i41 Y_X0_keptSince W_6_176 W_6_177 W_6_178 (c_X0_keptSince h44) (by decide) (by decide) rfl (Nat.le_of_ble_eq_true rfl) dX2_loadBlock_71 rfl ?_
        obtain ⟨k47, i48, hm⟩ := ckO_e hm
        obtain ⟨v49, ρ50, h51, hm⟩ := cll_e hm
        refine zx_callV (σ := ρ43) C [.int (v12), va_rf (some (a45))] tC_5 k47 i48 Y_X5_load W_6_154 W_2_130 W_2_131 (c_X5_load h51) (by decide) (by decide) rfl (Nat.le_of_ble_eq_true rfl) dX2_loadBlock_74 rfl ?_
        obtain ⟨rfl, rfl⟩ := ret_e hm
        exact zx_vret C rfl rfl rfl dX2_loadBlock_77
      · subst h46
        refine zx_callV (σ := ρ38) C [.int (v37), .int (v15)] tC_0 k40 i41 Y_X0_keptSince W_6_176 W_6_177 W_6_178 (c_X0_keptSince h44) (by decide) (by decide) rfl (Nat.le_of_ble_eq_true rfl) dX2_loadBlock_71 rfl ?_
        obtain ⟨k52, i53, hm⟩ := ckO_e hm
        obtain ⟨v54, ρ55, h56, hm⟩ := cll_e hm
        refine zx_callV (σ := ρ43) C [.int (v12), va_rf (none)] tC_5 k52 i53 Y_X5_load W_6_154 W_2_130 W_2_131 (c_X5_load h56) (by decide) (by decide) rfl (Nat.le_of_ble_eq_true rfl) dX2_loadBlock_74 rfl ?_
        obtain ⟨rfl, rfl⟩ := ret_e hm
        exact zx_vret C rfl rfl rfl dX2_loadBlock_77
    · replace hm := ip_e hm c11
      refine zx_aload_n C dX2_loadBlock_19 0 rfl ?_
      refine zx_iload_n C dX2_loadBlock_20 1 rfl ?_
      refine zx_lload_n C dX2_loadBlock_21 2 rfl ?_
      obtain ⟨k57, i58, hm⟩ := ckO_e hm
      obtain ⟨v59, ρ60, h61, hm⟩ := cll_e hm
      refine zx_callV (σ := ρ9) C [.int (p0), .long (p1)] tC_2 k57 i58 Y_X2_loadMeta W_6_166 W_6_168 Wp_52 (c_X2_loadMeta h61) (by decide) (by decide) rfl (Nat.le_of_ble_eq_true rfl) dX2_loadBlock_22 rfl ?_
      obtain ⟨rfl, rfl⟩ := ret_e hm
      exact zx_vret C rfl rfl rfl dX2_loadBlock_25
  · replace hm := ip_e hm c1
    obtain ⟨rfl, rfl⟩ := ret_e hm
    exact zx_vret C rfl rfl rfl dX2_loadBlock_6
abbrev cX5_reset : ByteArray := prog_7_method_2_code
def yX5_reset : MethodName := ⟨"SyncTree$Space", "reset", "(II)V"⟩
theorem Y_X5_reset : tY yX5_reset cX5_reset 4 none 2 := ⟨W_2_114, W_1_3, ⟨by decide +kernel, by decide +kernel⟩, by decide +kernel⟩
theorem dX5_reset_0 : decode cX5_reset 0 = .ok (.aload_n 0, 1) := by decide +kernel
theorem dX5_reset_1 : decode cX5_reset 1 = .ok (.invokevirtual 36, 3) := by decide +kernel
theorem dX5_reset_4 : decode cX5_reset 4 = .ok (.aload_n 0, 1) := by decide +kernel
theorem dX5_reset_5 : decode cX5_reset 5 = .ok (.bipush 34, 2) := by decide +kernel
theorem dX5_reset_7 : decode cX5_reset 7 = .ok (.iconst 0, 1) := by decide +kernel
theorem dX5_reset_8 : decode cX5_reset 8 = .ok (.iload_n 2, 1) := by decide +kernel
theorem dX5_reset_9 : decode cX5_reset 9 = .ok (.sipush 2000, 3) := by decide +kernel
theorem dX5_reset_12 : decode cX5_reset 12 = .ok (.invokestatic 39, 3) := by decide +kernel
theorem dX5_reset_15 : decode cX5_reset 15 = .ok (.invokestatic 45, 3) := by decide +kernel
theorem dX5_reset_18 : decode cX5_reset 18 = .ok (.iadd, 1) := by decide +kernel
theorem dX5_reset_19 : decode cX5_reset 19 = .ok (.putfield 48, 3) := by decide +kernel
theorem dX5_reset_22 : decode cX5_reset 22 = .ok (.aload_n 0, 1) := by decide +kernel
theorem dX5_reset_23 : decode cX5_reset 23 = .ok (.iload_n 1, 1) := by decide +kernel
theorem dX5_reset_24 : decode cX5_reset 24 = .ok (.putfield 52, 3) := by decide +kernel
theorem dX5_reset_27 : decode cX5_reset 27 = .ok (.aload_n 0, 1) := by decide +kernel
theorem dX5_reset_28 : decode cX5_reset 28 = .ok (.iconst 0, 1) := by decide +kernel
theorem dX5_reset_29 : decode cX5_reset 29 = .ok (.putfield 55, 3) := by decide +kernel
theorem dX5_reset_32 : decode cX5_reset 32 = .ok (.iconst 1, 1) := by decide +kernel
theorem dX5_reset_33 : decode cX5_reset 33 = .ok (.istore_n 3, 1) := by decide +kernel
theorem dX5_reset_34 : decode cX5_reset 34 = .ok (.iload_n 3, 1) := by decide +kernel
theorem dX5_reset_35 : decode cX5_reset 35 = .ok (.bipush 34, 2) := by decide +kernel
theorem dX5_reset_37 : decode cX5_reset 37 = .ok (.if_icmp .ge 15, 3) := by decide +kernel
theorem dX5_reset_40 : decode cX5_reset 40 = .ok (.aload_n 0, 1) := by decide +kernel
theorem dX5_reset_41 : decode cX5_reset 41 = .ok (.iload_n 3, 1) := by decide +kernel
theorem dX5_reset_42 : decode cX5_reset 42 = .ok (.aconst_null, 1) := by decide +kernel
theorem dX5_reset_43 : decode cX5_reset 43 = .ok (.invokevirtual 58, 3) := by decide +kernel
theorem dX5_reset_46 : decode cX5_reset 46 = .ok (.iinc 3 1, 3) := by decide +kernel
theorem dX5_reset_49 : decode cX5_reset 49 = .ok (.goto (-15), 3) := by decide +kernel
theorem dX5_reset_52 : decode cX5_reset 52 = .ok (.aload_n 0, 1) := by decide +kernel
theorem dX5_reset_53 : decode cX5_reset 53 = .ok (.invokevirtual 62, 3) := by decide +kernel
theorem dX5_reset_56 : decode cX5_reset 56 = .ok (.return_, 1) := by decide +kernel
def L_X5_reset_34 (b0 fu : Nat)  : Nat → Nat → Int32 → tM → Option ((Unit) × tM)
  | 0, _, _, _ => none
  | n + 1, x0, x3, σ => ltb (L_X5_reset_34 b0 fu  n) (fun rc34 => if (34) ≤ (x3) then ckO b0 (σ) (x0) 5 (cll (m_X5_readMap b0 fu (x0) (σ)) (fun v11 ρ12 => some ((), ρ12))) else ckO b0 (σ) (x0) 5 (cll (m_X5_load b0 fu (x0) (x3) (none) (σ)) (fun v16 ρ17 => ltb ((x3) + Int32.ofInt 1) (fun y19 => rc34 (x0) (y19) (ρ17)))))
def m_X5_reset (b0 fu : Nat) (a0 : Nat) (p0 : Int32) (p1 : Int32) (σ : tM) : Option ((Unit) × tM) := grw σ (ckO b0 (σ) (a0) 5 (cll (m_X5_forgetMarks b0 fu (a0) (σ)) (fun v3 ρ4 => ckO b0 (ρ4) (a0) 5 (L_X5_reset_34 b0 fu  (fu) (a0) (1) (sI (sI (sI (ρ4) (a0) 7 ((34) + ((if ((0 : Int32)) < ((if ((2000 : Int32)) < (p1) then (2000) else (p1) : Int32)) then ((if ((2000 : Int32)) < (p1) then (2000) else (p1) : Int32)) else (0) : Int32)))) (a0) 8 (p0)) (a0) 15 (0))))))
set_option maxRecDepth 100000 in
set_option maxHeartbeats 1000000 in
theorem l_X5_reset_34 {p : Program} {l : Launch} {e : Env} {s : State} {m : MethodId} {args : Array Value} {below : List Frame} {meth : Method} {c : Code} {D : va_G} {aC : Nat → ClassId} {b0 fu : Nat} {σ0 τ : tM} {v : Unit}  (C : tCx p l s m args meth c yX5_reset.cls cX5_reset 4 none D aC b0 σ0) (htab : ∀ x ∈ c.exceptionTable.toList, False) (hin : meth.name = yX5_reset.name)  : ∀ (n : Nat) (x0 : Nat) (x3 : Int32) (σ : tM), L_X5_reset_34 b0 fu  n x0 x3 σ = some (v, τ) → tX p l e s m args below meth c 4 3 66 D aC b0 σ0 (.inl none) τ 34 [(0, .ref (x0)), (3, .int (x3))] [] σ := by
  intro n
  induction n with
  | zero => intro x0 x3 σ hm; unfold L_X5_reset_34 at hm; cases hm
  | succ n ih =>
    intro x0 x3 σ hm
    unfold L_X5_reset_34 at hm
    obtain ⟨rc34, hrc⟩ : ∃ z, z = L_X5_reset_34 b0 fu  n := ⟨_, rfl⟩
    replace hm := ltb_e hm hrc
    rw [← hrc] at ih
    have hrc34 := ih
    clear ih hrc
    refine zx_iload_n C dX5_reset_34 1 rfl ?_
    refine zx_bipush (v := 34) C dX5_reset_35 (by decide) ?_
    refine zx_icmp_ge C 52 dX5_reset_37 (by decide) (fun c8 => ?_) (fun c8 => ?_)
    · replace hm := ip_e hm c8
      refine zx_aload_n C dX5_reset_52 0 rfl ?_
      obtain ⟨k9, i10, hm⟩ := ckO_e hm
      obtain ⟨v11, ρ12, h13, hm⟩ := cll_e hm
      refine zx_callV (σ := σ) C [] tC_5 k9 i10 Y_X5_readMap W_2_136 W_2_137 W_2_138 (c_X5_readMap h13) (by decide) (by decide) rfl (Nat.le_of_ble_eq_true rfl) dX5_reset_53 rfl ?_
      obtain ⟨rfl, rfl⟩ := ret_e hm
      exact zx_vret C rfl rfl rfl dX5_reset_56
    · replace hm := in_e hm c8
      refine zx_aload_n C dX5_reset_40 0 rfl ?_
      refine zx_iload_n C dX5_reset_41 1 rfl ?_
      refine zx_null C dX5_reset_42 ?_
      obtain ⟨k14, i15, hm⟩ := ckO_e hm
      obtain ⟨v16, ρ17, h18, hm⟩ := cll_e hm
      refine zx_callV (σ := σ) C [.int (x3), va_rf (none)] tC_5 k14 i15 Y_X5_load W_2_129 W_2_130 W_2_131 (c_X5_load h18) (by decide) (by decide) rfl (Nat.le_of_ble_eq_true rfl) dX5_reset_43 rfl ?_
      obtain ⟨y19, hy19⟩ : ∃ z : Int32, z = (x3) + Int32.ofInt 1 := ⟨_, rfl⟩
      replace hm := ltb_e hm hy19
      refine zx_iinc C [(3, .int (y19)), (0, .ref (x0))] dX5_reset_46 1 rfl hy19.symm (by decide) rfl ?_
      refine zx_goto C 34 dX5_reset_49 (by decide) ?_
      exact zx_lv [1, 0] [(0, .ref (x0)), (3, .int (y19))] rfl (hrc34 _ _ _ hm)
set_option maxRecDepth 100000 in
set_option maxHeartbeats 1000000 in
theorem c_X5_reset {l : Launch} {D : va_G} {aC : Nat → ClassId} {b0 fu : Nat} {a0 : Nat} {p0 : Int32} {p1 : Int32} {σ τ : tM} {v : Unit} (hm : m_X5_reset b0 fu a0 p0 p1 σ = some (v, τ)) : tMt l D aC b0 yX5_reset (Cond.code yX5_reset cX5_reset 4 none) 3 66 [.ref (a0), .int (p0), .int (p1)] σ (.inl none) τ := by
  unfold m_X5_reset at hm
  obtain ⟨hg, hm⟩ := grw_e hm
  refine tMt_of (n := 0) rfl (Nat.le_of_ble_eq_true rfl) hg ?_
  intro p e s m below meth c C htab hin
  refine zx_lv [0, 1, 2] [(0, .ref (a0)), (1, .int (p0)), (2, .int (p1))] rfl ?_
  refine zx_aload_n C dX5_reset_0 0 rfl ?_
  obtain ⟨k1, i2, hm⟩ := ckO_e hm
  obtain ⟨v3, ρ4, h5, hm⟩ := cll_e hm
  refine zx_callV (σ := σ) C [] tC_5 k1 i2 Y_X5_forgetMarks W_2_115 W_2_117 Wp_4 (c_X5_forgetMarks h5) (by decide) (by decide) rfl (Nat.le_of_ble_eq_true rfl) dX5_reset_1 rfl ?_
  refine zx_aload_n C dX5_reset_4 0 rfl ?_
  refine zx_bipush (v := 34) C dX5_reset_5 (by decide) ?_
  refine zx_iconst (v := 0) C dX5_reset_7 (by decide) ?_
  refine zx_iload_n C dX5_reset_8 2 rfl ?_
  refine zx_sipush (v := 2000) C dX5_reset_9 (by decide) ?_
  refine zx_min C W_2_127 W_2_106 W_1_10 W_2_107 (by decide) (by decide) (Nat.le_of_ble_eq_true rfl) dX5_reset_12 ?_
  refine zx_max C W_2_128 W_2_109 W_1_10 W_2_110 (by decide) (by decide) (Nat.le_of_ble_eq_true rfl) dX5_reset_15 ?_
  refine zx_iadd C dX5_reset_18 ?_
  obtain ⟨k6, i7, hm⟩ := ckO_e hm
  refine zx_put (j := 7) (ρ := sI (ρ4) (a0) 7 ((34) + ((if ((0 : Int32)) < ((if ((2000 : Int32)) < (p1) then (2000) else (p1) : Int32)) then ((if ((2000 : Int32)) < (p1) then (2000) else (p1) : Int32)) else (0) : Int32)))) C tC_5 k6 i7 ⟨by decide, Or.inl W_1_104⟩ rfl rfl rfl (sI_ok (fun _ => rfl)) dX5_reset_19 ?_
  refine zx_aload_n C dX5_reset_22 0 rfl ?_
  refine zx_iload_n C dX5_reset_23 1 rfl ?_
  refine zx_put (j := 8) (ρ := sI (sI (ρ4) (a0) 7 ((34) + ((if ((0 : Int32)) < ((if ((2000 : Int32)) < (p1) then (2000) else (p1) : Int32)) then ((if ((2000 : Int32)) < (p1) then (2000) else (p1) : Int32)) else (0) : Int32)))) (a0) 8 (p0)) C tC_5 k6 i7 ⟨by decide, Or.inl W_1_106⟩ rfl rfl rfl (sI_ok (fun _ => rfl)) dX5_reset_24 ?_
  refine zx_aload_n C dX5_reset_27 0 rfl ?_
  refine zx_iconst (v := 0) C dX5_reset_28 (by decide) ?_
  refine zx_put (j := 15) (ρ := sI (sI (sI (ρ4) (a0) 7 ((34) + ((if ((0 : Int32)) < ((if ((2000 : Int32)) < (p1) then (2000) else (p1) : Int32)) then ((if ((2000 : Int32)) < (p1) then (2000) else (p1) : Int32)) else (0) : Int32)))) (a0) 8 (p0)) (a0) 15 (0)) C tC_5 k6 i7 ⟨by decide, Or.inl W_1_118⟩ rfl rfl rfl (sI_ok (fun _ => rfl)) dX5_reset_29 ?_
  refine zx_iconst (v := 1) C dX5_reset_32 (by decide) ?_
  refine zx_istore_n C [(3, .int (1)), (0, .ref (a0)), (1, .int (p0)), (2, .int (p1))] dX5_reset_33 rfl (by decide) rfl ?_
  exact zx_lv [1, 0] [(0, .ref (a0)), (3, .int (1))] rfl (l_X5_reset_34 C htab hin  _ _ _ _ hm)
abbrev cX8_drop : ByteArray := prog_10_method_30_code
def yX8_drop : MethodName := ⟨"SyncTree$Tree", "drop", "(II)V"⟩
theorem Y_X8_drop : tY yX8_drop cX8_drop 6 none 2 := ⟨W_5_45, W_1_4, ⟨by decide +kernel, by decide +kernel⟩, by decide +kernel⟩
theorem dX8_drop_0 : decode cX8_drop 0 = .ok (.aload_n 0, 1) := by decide +kernel
theorem dX8_drop_1 : decode cX8_drop 1 = .ok (.iload_n 1, 1) := by decide +kernel
theorem dX8_drop_2 : decode cX8_drop 2 = .ok (.iload_n 2, 1) := by decide +kernel
theorem dX8_drop_3 : decode cX8_drop 3 = .ok (.invokevirtual 112, 3) := by decide +kernel
theorem dX8_drop_6 : decode cX8_drop 6 = .ok (.lstore_n 3, 1) := by decide +kernel
theorem dX8_drop_7 : decode cX8_drop 7 = .ok (.lload_n 3, 1) := by decide +kernel
theorem dX8_drop_8 : decode cX8_drop 8 = .ok (.lconst 0, 1) := by decide +kernel
theorem dX8_drop_9 : decode cX8_drop 9 = .ok (.lcmp, 1) := by decide +kernel
theorem dX8_drop_10 : decode cX8_drop 10 = .ok (.ifCond .ne 4, 3) := by decide +kernel
theorem dX8_drop_13 : decode cX8_drop 13 = .ok (.return_, 1) := by decide +kernel
theorem dX8_drop_14 : decode cX8_drop 14 = .ok (.aload_n 0, 1) := by decide +kernel
theorem dX8_drop_15 : decode cX8_drop 15 = .ok (.iload_n 1, 1) := by decide +kernel
theorem dX8_drop_16 : decode cX8_drop 16 = .ok (.iload_n 2, 1) := by decide +kernel
theorem dX8_drop_17 : decode cX8_drop 17 = .ok (.lconst 0, 1) := by decide +kernel
theorem dX8_drop_18 : decode cX8_drop 18 = .ok (.invokevirtual 119, 3) := by decide +kernel
theorem dX8_drop_21 : decode cX8_drop 21 = .ok (.aload_n 0, 1) := by decide +kernel
theorem dX8_drop_22 : decode cX8_drop 22 = .ok (.getfield 15, 3) := by decide +kernel
theorem dX8_drop_25 : decode cX8_drop 25 = .ok (.lload_n 3, 1) := by decide +kernel
theorem dX8_drop_26 : decode cX8_drop 26 = .ok (.invokestatic 104, 3) := by decide +kernel
theorem dX8_drop_29 : decode cX8_drop 29 = .ok (.aload_n 0, 1) := by decide +kernel
theorem dX8_drop_30 : decode cX8_drop 30 = .ok (.iload_n 1, 1) := by decide +kernel
theorem dX8_drop_31 : decode cX8_drop 31 = .ok (.invokevirtual 40, 3) := by decide +kernel
theorem dX8_drop_34 : decode cX8_drop 34 = .ok (.iconst 2, 1) := by decide +kernel
theorem dX8_drop_35 : decode cX8_drop 35 = .ok (.if_icmp .ne 7, 3) := by decide +kernel
theorem dX8_drop_38 : decode cX8_drop 38 = .ok (.iconst 1, 1) := by decide +kernel
theorem dX8_drop_39 : decode cX8_drop 39 = .ok (.goto 4, 3) := by decide +kernel
theorem dX8_drop_42 : decode cX8_drop 42 = .ok (.iconst 0, 1) := by decide +kernel
theorem dX8_drop_43 : decode cX8_drop 43 = .ok (.invokevirtual 122, 3) := by decide +kernel
theorem dX8_drop_46 : decode cX8_drop 46 = .ok (.aload_n 0, 1) := by decide +kernel
theorem dX8_drop_47 : decode cX8_drop 47 = .ok (.iload_n 1, 1) := by decide +kernel
theorem dX8_drop_48 : decode cX8_drop 48 = .ok (.iconst 1, 1) := by decide +kernel
theorem dX8_drop_49 : decode cX8_drop 49 = .ok (.invokevirtual 63, 3) := by decide +kernel
theorem dX8_drop_52 : decode cX8_drop 52 = .ok (.iload_n 2, 1) := by decide +kernel
theorem dX8_drop_53 : decode cX8_drop 53 = .ok (.bipush 40, 2) := by decide +kernel
theorem dX8_drop_55 : decode cX8_drop 55 = .ok (.if_icmp .lt 72, 3) := by decide +kernel
theorem dX8_drop_58 : decode cX8_drop 58 = .ok (.aload_n 0, 1) := by decide +kernel
theorem dX8_drop_59 : decode cX8_drop 59 = .ok (.iload_n 1, 1) := by decide +kernel
theorem dX8_drop_60 : decode cX8_drop 60 = .ok (.iload_n 2, 1) := by decide +kernel
theorem dX8_drop_61 : decode cX8_drop 61 = .ok (.invokevirtual 101, 3) := by decide +kernel
theorem dX8_drop_64 : decode cX8_drop 64 = .ok (.invokestatic 104, 3) := by decide +kernel
theorem dX8_drop_67 : decode cX8_drop 67 = .ok (.istore 5, 2) := by decide +kernel
theorem dX8_drop_69 : decode cX8_drop 69 = .ok (.aload_n 0, 1) := by decide +kernel
theorem dX8_drop_70 : decode cX8_drop 70 = .ok (.getfield 15, 3) := by decide +kernel
theorem dX8_drop_73 : decode cX8_drop 73 = .ok (.iload 5, 2) := by decide +kernel
theorem dX8_drop_75 : decode cX8_drop 75 = .ok (.iconst 0, 1) := by decide +kernel
theorem dX8_drop_76 : decode cX8_drop 76 = .ok (.invokevirtual 126, 3) := by decide +kernel
theorem dX8_drop_79 : decode cX8_drop 79 = .ok (.ifCond .eq 45, 3) := by decide +kernel
theorem dX8_drop_82 : decode cX8_drop 82 = .ok (.aload_n 0, 1) := by decide +kernel
theorem dX8_drop_83 : decode cX8_drop 83 = .ok (.getfield 15, 3) := by decide +kernel
theorem dX8_drop_86 : decode cX8_drop 86 = .ok (.aload_n 0, 1) := by decide +kernel
theorem dX8_drop_87 : decode cX8_drop 87 = .ok (.iload_n 1, 1) := by decide +kernel
theorem dX8_drop_88 : decode cX8_drop 88 = .ok (.bipush 10, 2) := by decide +kernel
theorem dX8_drop_90 : decode cX8_drop 90 = .ok (.invokevirtual 30, 3) := by decide +kernel
theorem dX8_drop_93 : decode cX8_drop 93 = .ok (.invokestatic 104, 3) := by decide +kernel
theorem dX8_drop_96 : decode cX8_drop 96 = .ok (.iload_n 2, 1) := by decide +kernel
theorem dX8_drop_97 : decode cX8_drop 97 = .ok (.bipush 40, 2) := by decide +kernel
theorem dX8_drop_99 : decode cX8_drop 99 = .ok (.isub, 1) := by decide +kernel
theorem dX8_drop_100 : decode cX8_drop 100 = .ok (.bipush 32, 2) := by decide +kernel
theorem dX8_drop_102 : decode cX8_drop 102 = .ok (.idiv, 1) := by decide +kernel
theorem dX8_drop_103 : decode cX8_drop 103 = .ok (.lconst 0, 1) := by decide +kernel
theorem dX8_drop_104 : decode cX8_drop 104 = .ok (.invokevirtual 108, 3) := by decide +kernel
theorem dX8_drop_107 : decode cX8_drop 107 = .ok (.aload_n 0, 1) := by decide +kernel
theorem dX8_drop_108 : decode cX8_drop 108 = .ok (.getfield 15, 3) := by decide +kernel
theorem dX8_drop_111 : decode cX8_drop 111 = .ok (.iload 5, 2) := by decide +kernel
theorem dX8_drop_113 : decode cX8_drop 113 = .ok (.iconst 1, 1) := by decide +kernel
theorem dX8_drop_114 : decode cX8_drop 114 = .ok (.invokevirtual 122, 3) := by decide +kernel
theorem dX8_drop_117 : decode cX8_drop 117 = .ok (.aload_n 0, 1) := by decide +kernel
theorem dX8_drop_118 : decode cX8_drop 118 = .ok (.iload_n 1, 1) := by decide +kernel
theorem dX8_drop_119 : decode cX8_drop 119 = .ok (.bipush 10, 2) := by decide +kernel
theorem dX8_drop_121 : decode cX8_drop 121 = .ok (.invokevirtual 130, 3) := by decide +kernel
theorem dX8_drop_124 : decode cX8_drop 124 = .ok (.goto 16, 3) := by decide +kernel
theorem dX8_drop_127 : decode cX8_drop 127 = .ok (.iload_n 2, 1) := by decide +kernel
theorem dX8_drop_128 : decode cX8_drop 128 = .ok (.bipush 8, 2) := by decide +kernel
theorem dX8_drop_130 : decode cX8_drop 130 = .ok (.if_icmp .lt 10, 3) := by decide +kernel
theorem dX8_drop_133 : decode cX8_drop 133 = .ok (.aload_n 0, 1) := by decide +kernel
theorem dX8_drop_134 : decode cX8_drop 134 = .ok (.iload_n 1, 1) := by decide +kernel
theorem dX8_drop_135 : decode cX8_drop 135 = .ok (.bipush 9, 2) := by decide +kernel
theorem dX8_drop_137 : decode cX8_drop 137 = .ok (.invokevirtual 130, 3) := by decide +kernel
theorem dX8_drop_140 : decode cX8_drop 140 = .ok (.return_, 1) := by decide +kernel
def J_X8_drop_140 (b0 fu : Nat)   (σ : tM) : Option ((Unit) × tM) := some ((), σ)
def J_X8_drop_124 (b0 fu : Nat)   (σ : tM) : Option ((Unit) × tM) := J_X8_drop_140 b0 fu    (σ)
def J_X8_drop_43 (b0 fu : Nat)  (x0 : Nat) (x1 : Int32) (x2 : Int32) (s0 : Nat) (s1 : Int32) (s2 : Int32) (σ : tM) : Option ((Unit) × tM) := ckO b0 (σ) (s0) 5 (cll (m_X5_release b0 fu (s0) (s1) (s2) (σ)) (fun v27 ρ28 => ckO b0 (ρ28) (x0) 8 (cll (m_X8_noteChange b0 fu (x0) (x1) (1) (ρ28)) (fun v32 ρ33 => if (x2) < (40) then if (x2) < (8) then J_X8_drop_140 b0 fu    (ρ33) else ckO b0 (ρ33) (x0) 8 (cll (m_X8_dropIfEmpty b0 fu (x0) (x1) (9) (ρ33)) (fun v39 ρ40 => J_X8_drop_140 b0 fu    (ρ40))) else ckO b0 (ρ33) (x0) 8 (cll (m_X8_table b0 fu (x0) (x1) (x2) (ρ33)) (fun v44 ρ45 => cll (m_X8_cellOf b0 fu (v44) (ρ45)) (fun v47 ρ48 => ckO b0 (ρ48) (x0) 8 (osm (tA (ρ48) (x0) 0) (fun a52 => ckO b0 (ρ48) (a52) 5 (cll (m_X5_isZeroFrom b0 fu (a52) (v47) (0) (ρ48)) (fun v56 ρ57 => if (v56) = (0) then J_X8_drop_124 b0 fu    (ρ57) else ckO b0 (ρ57) (x0) 8 (osm (tA (ρ57) (x0) 0) (fun a62 => cll (m_X8_nodeWord b0 fu (x0) (x1) (10) (ρ57)) (fun v64 ρ65 => cll (m_X8_cellOf b0 fu (v64) (ρ65)) (fun v67 ρ68 => ckO b0 (ρ68) (a62) 5 (cll (m_X5_setWord b0 fu (a62) (v67) (((x2) - (40)) / (32)) (0) (ρ68)) (fun v72 ρ73 => ckO b0 (ρ73) (x0) 8 (osm (tA (ρ73) (x0) 0) (fun a77 => ckO b0 (ρ73) (a77) 5 (cll (m_X5_release b0 fu (a77) (v47) (1) (ρ73)) (fun v81 ρ82 => ckO b0 (ρ82) (x0) 8 (cll (m_X8_dropIfEmpty b0 fu (x0) (x1) (10) (ρ82)) (fun v86 ρ87 => J_X8_drop_124 b0 fu    (ρ87))))))))))))))))))))))))
def m_X8_drop (b0 fu : Nat) (a0 : Nat) (p0 : Int32) (p1 : Int32) (σ : tM) : Option ((Unit) × tM) := grw σ (ckO b0 (σ) (a0) 8 (cll (m_X8_pointer b0 fu (a0) (p0) (p1) (σ)) (fun v3 ρ4 => if (lg_cmp (v3) (0)) = (0) then some ((), ρ4) else ckO b0 (ρ4) (a0) 8 (cll (m_X8_setPointer b0 fu (a0) (p0) (p1) (0) (ρ4)) (fun v9 ρ10 => ckO b0 (ρ10) (a0) 8 (osm (tA (ρ10) (a0) 0) (fun a14 => cll (m_X8_cellOf b0 fu (v3) (ρ10)) (fun v16 ρ17 => ckO b0 (ρ17) (a0) 8 (cll (m_X8_kind b0 fu (a0) (p0) (ρ17)) (fun v21 ρ22 => if (v21) = (2) then J_X8_drop_43 b0 fu   (a0) (p0) (p1) (a14) (v16) (1) (ρ22) else J_X8_drop_43 b0 fu   (a0) (p0) (p1) (a14) (v16) (0) (ρ22)))))))))))
set_option maxRecDepth 100000 in
set_option maxHeartbeats 1000000 in
theorem j_X8_drop_140 {p : Program} {l : Launch} {e : Env} {s : State} {m : MethodId} {args : Array Value} {below : List Frame} {meth : Method} {c : Code} {D : va_G} {aC : Nat → ClassId} {b0 fu : Nat} {σ0 τ : tM} {v : Unit}  (C : tCx p l s m args meth c yX8_drop.cls cX8_drop 6 none D aC b0 σ0) (htab : ∀ x ∈ c.exceptionTable.toList, False) (hin : meth.name = yX8_drop.name)   {σ : tM} (hm : J_X8_drop_140 b0 fu   σ = some (v, τ)) : tX p l e s m args below meth c 6 3 71 D aC b0 σ0 (.inl none) τ 140 [] [] σ := by
  unfold J_X8_drop_140 at hm
  obtain ⟨rfl, rfl⟩ := ret_e hm
  exact zx_vret C rfl rfl rfl dX8_drop_140
set_option maxRecDepth 100000 in
set_option maxHeartbeats 1000000 in
theorem j_X8_drop_124 {p : Program} {l : Launch} {e : Env} {s : State} {m : MethodId} {args : Array Value} {below : List Frame} {meth : Method} {c : Code} {D : va_G} {aC : Nat → ClassId} {b0 fu : Nat} {σ0 τ : tM} {v : Unit}  (C : tCx p l s m args meth c yX8_drop.cls cX8_drop 6 none D aC b0 σ0) (htab : ∀ x ∈ c.exceptionTable.toList, False) (hin : meth.name = yX8_drop.name)   {σ : tM} (hm : J_X8_drop_124 b0 fu   σ = some (v, τ)) : tX p l e s m args below meth c 6 3 71 D aC b0 σ0 (.inl none) τ 124 [] [] σ := by
  unfold J_X8_drop_124 at hm
  refine zx_goto C 140 dX8_drop_124 (by decide) ?_
  exact zx_lv [] [] rfl (j_X8_drop_140 C htab hin    hm)
set_option maxRecDepth 100000 in
set_option maxHeartbeats 1000000 in
theorem j_X8_drop_43 {p : Program} {l : Launch} {e : Env} {s : State} {m : MethodId} {args : Array Value} {below : List Frame} {meth : Method} {c : Code} {D : va_G} {aC : Nat → ClassId} {b0 fu : Nat} {σ0 τ : tM} {v : Unit}  (C : tCx p l s m args meth c yX8_drop.cls cX8_drop 6 none D aC b0 σ0) (htab : ∀ x ∈ c.exceptionTable.toList, False) (hin : meth.name = yX8_drop.name)  {x0 : Nat} {x1 : Int32} {x2 : Int32} {s0 : Nat} {s1 : Int32} {s2 : Int32} {σ : tM} (hm : J_X8_drop_43 b0 fu  x0 x1 x2 s0 s1 s2 σ = some (v, τ)) : tX p l e s m args below meth c 6 3 71 D aC b0 σ0 (.inl none) τ 43 [(0, .ref (x0)), (1, .int (x1)), (2, .int (x2))] [.int (s2), .int (s1), .ref (s0)] σ := by
  unfold J_X8_drop_43 at hm
  obtain ⟨k25, i26, hm⟩ := ckO_e hm
  obtain ⟨v27, ρ28, h29, hm⟩ := cll_e hm
  refine zx_callV (σ := σ) C [.int (s1), .int (s2)] tC_5 k25 i26 Y_X5_release W_5_46 W_5_47 W_5_48 (c_X5_release h29) (by decide) (by decide) rfl (Nat.le_of_ble_eq_true rfl) dX8_drop_43 rfl ?_
  refine zx_aload_n C dX8_drop_46 0 rfl ?_
  refine zx_iload_n C dX8_drop_47 1 rfl ?_
  refine zx_iconst (v := 1) C dX8_drop_48 (by decide) ?_
  obtain ⟨k30, i31, hm⟩ := ckO_e hm
  obtain ⟨v32, ρ33, h34, hm⟩ := cll_e hm
  refine zx_callV (σ := ρ28) C [.int (x1), .int (1)] tC_8 k30 i31 Y_X8_noteChange W_2_160 W_2_162 Wp_7 (c_X8_noteChange h34) (by decide) (by decide) rfl (Nat.le_of_ble_eq_true rfl) dX8_drop_49 rfl ?_
  refine zx_iload_n C dX8_drop_52 2 rfl ?_
  refine zx_bipush (v := 40) C dX8_drop_53 (by decide) ?_
  refine zx_icmp_lt C 127 dX8_drop_55 (by decide) (fun c35 => ?_) (fun c35 => ?_)
  · replace hm := ip_e hm c35
    refine zx_iload_n C dX8_drop_127 2 rfl ?_
    refine zx_bipush (v := 8) C dX8_drop_128 (by decide) ?_
    refine zx_icmp_lt C 140 dX8_drop_130 (by decide) (fun c36 => ?_) (fun c36 => ?_)
    · replace hm := ip_e hm c36
      exact zx_lv [] [] rfl (j_X8_drop_140 C htab hin    hm)
    · replace hm := in_e hm c36
      refine zx_aload_n C dX8_drop_133 0 rfl ?_
      refine zx_iload_n C dX8_drop_134 1 rfl ?_
      refine zx_bipush (v := 9) C dX8_drop_135 (by decide) ?_
      obtain ⟨k37, i38, hm⟩ := ckO_e hm
      obtain ⟨v39, ρ40, h41, hm⟩ := cll_e hm
      refine zx_callV (σ := ρ33) C [.int (x1), .int (9)] tC_8 k37 i38 Y_X8_dropIfEmpty W_5_54 W_5_56 Wp_35 (c_X8_dropIfEmpty h41) (by decide) (by decide) rfl (Nat.le_of_ble_eq_true rfl) dX8_drop_137 rfl ?_
      exact zx_lv [] [] rfl (j_X8_drop_140 C htab hin    hm)
  · replace hm := in_e hm c35
    refine zx_aload_n C dX8_drop_58 0 rfl ?_
    refine zx_iload_n C dX8_drop_59 1 rfl ?_
    refine zx_iload_n C dX8_drop_60 2 rfl ?_
    obtain ⟨k42, i43, hm⟩ := ckO_e hm
    obtain ⟨v44, ρ45, h46, hm⟩ := cll_e hm
    refine zx_callV (σ := ρ33) C [.int (x1), .int (x2)] tC_8 k42 i43 Y_X8_table W_4_113 W_4_115 Wp_25 (c_X8_table h46) (by decide) (by decide) rfl (Nat.le_of_ble_eq_true rfl) dX8_drop_61 rfl ?_
    obtain ⟨v47, ρ48, h49, hm⟩ := cll_e hm
    refine zx_callS (σ := ρ45) C [.long (v44)] Y_X8_cellOf W_4_117 W_4_118 (c_X8_cellOf h49) (by decide) (by decide) rfl (Nat.le_of_ble_eq_true rfl) dX8_drop_64 rfl ?_
    refine zx_istore C [(5, .int (v47)), (0, .ref (x0)), (1, .int (x1)), (2, .int (x2))] dX8_drop_67 (by decide) rfl ?_
    refine zx_aload_n C dX8_drop_69 1 rfl ?_
    obtain ⟨k50, i51, hm⟩ := ckO_e hm
    obtain ⟨a52, h53, hm⟩ := osm_e hm
    refine zx_get (j := 0) C tC_8 k50 i51 ⟨by decide, Or.inl W_1_163⟩ dX8_drop_70 (.ref a52) (rf_s h53) ?_
    refine zx_iload C dX8_drop_73 0 rfl ?_
    refine zx_iconst (v := 0) C dX8_drop_75 (by decide) ?_
    obtain ⟨k54, i55, hm⟩ := ckO_e hm
    obtain ⟨v56, ρ57, h58, hm⟩ := cll_e hm
    refine zx_callV (σ := ρ48) C [.int (v47), .int (0)] tC_5 k54 i55 Y_X5_isZeroFrom W_5_37 W_5_38 W_5_39 (c_X5_isZeroFrom h58) (by decide) (by decide) rfl (Nat.le_of_ble_eq_true rfl) dX8_drop_76 rfl ?_
    refine zx_if_eq C 124 dX8_drop_79 (by decide) (fun c59 => ?_) (fun c59 => ?_)
    · replace hm := ip_e hm c59
      exact zx_lv [] [] rfl (j_X8_drop_124 C htab hin    hm)
    · replace hm := in_e hm c59
      refine zx_aload_n C dX8_drop_82 1 rfl ?_
      obtain ⟨k60, i61, hm⟩ := ckO_e hm
      obtain ⟨a62, h63, hm⟩ := osm_e hm
      refine zx_get (j := 0) C tC_8 k60 i61 ⟨by decide, Or.inl W_1_163⟩ dX8_drop_83 (.ref a62) (rf_s h63) ?_
      refine zx_aload_n C dX8_drop_86 1 rfl ?_
      refine zx_iload_n C dX8_drop_87 2 rfl ?_
      refine zx_bipush (v := 10) C dX8_drop_88 (by decide) ?_
      obtain ⟨v64, ρ65, h66, hm⟩ := cll_e hm
      refine zx_callV (σ := ρ57) C [.int (x1), .int (10)] tC_8 k60 i61 Y_X8_nodeWord W_3_83 W_3_84 W_3_85 (c_X8_nodeWord h66) (by decide) (by decide) rfl (Nat.le_of_ble_eq_true rfl) dX8_drop_90 rfl ?_
      obtain ⟨v67, ρ68, h69, hm⟩ := cll_e hm
      refine zx_callS (σ := ρ65) C [.long (v64)] Y_X8_cellOf W_4_117 W_4_118 (c_X8_cellOf h69) (by decide) (by decide) rfl (Nat.le_of_ble_eq_true rfl) dX8_drop_93 rfl ?_
      refine zx_iload_n C dX8_drop_96 3 rfl ?_
      refine zx_bipush (v := 40) C dX8_drop_97 (by decide) ?_
      refine zx_isub C dX8_drop_99 ?_
      refine zx_bipush (v := 32) C dX8_drop_100 (by decide) ?_
      refine zx_idiv C dX8_drop_102 (by decide) ?_
      refine zx_lconst (v := 0) C dX8_drop_103 (by decide) ?_
      obtain ⟨k70, i71, hm⟩ := ckO_e hm
      obtain ⟨v72, ρ73, h74, hm⟩ := cll_e hm
      refine zx_callV (σ := ρ68) C [.int (v67), .int (((x2) - (40)) / (32)), .long (0)] tC_5 k70 i71 Y_X5_setWord W_4_216 W_4_217 W_4_218 (c_X5_setWord h74) (by decide) (by decide) rfl (Nat.le_of_ble_eq_true rfl) dX8_drop_104 rfl ?_
      refine zx_aload_n C dX8_drop_107 1 rfl ?_
      obtain ⟨k75, i76, hm⟩ := ckO_e hm
      obtain ⟨a77, h78, hm⟩ := osm_e hm
      refine zx_get (j := 0) C tC_8 k75 i76 ⟨by decide, Or.inl W_1_163⟩ dX8_drop_108 (.ref a77) (rf_s h78) ?_
      refine zx_iload C dX8_drop_111 0 rfl ?_
      refine zx_iconst (v := 1) C dX8_drop_113 (by decide) ?_
      obtain ⟨k79, i80, hm⟩ := ckO_e hm
      obtain ⟨v81, ρ82, h83, hm⟩ := cll_e hm
      refine zx_callV (σ := ρ73) C [.int (v47), .int (1)] tC_5 k79 i80 Y_X5_release W_5_46 W_5_47 W_5_48 (c_X5_release h83) (by decide) (by decide) rfl (Nat.le_of_ble_eq_true rfl) dX8_drop_114 rfl ?_
      refine zx_aload_n C dX8_drop_117 1 rfl ?_
      refine zx_iload_n C dX8_drop_118 2 rfl ?_
      refine zx_bipush (v := 10) C dX8_drop_119 (by decide) ?_
      obtain ⟨k84, i85, hm⟩ := ckO_e hm
      obtain ⟨v86, ρ87, h88, hm⟩ := cll_e hm
      refine zx_callV (σ := ρ82) C [.int (x1), .int (10)] tC_8 k84 i85 Y_X8_dropIfEmpty W_5_54 W_5_56 Wp_35 (c_X8_dropIfEmpty h88) (by decide) (by decide) rfl (Nat.le_of_ble_eq_true rfl) dX8_drop_121 rfl ?_
      exact zx_lv [] [] rfl (j_X8_drop_124 C htab hin    hm)
set_option maxRecDepth 100000 in
set_option maxHeartbeats 1000000 in
theorem c_X8_drop {l : Launch} {D : va_G} {aC : Nat → ClassId} {b0 fu : Nat} {a0 : Nat} {p0 : Int32} {p1 : Int32} {σ τ : tM} {v : Unit} (hm : m_X8_drop b0 fu a0 p0 p1 σ = some (v, τ)) : tMt l D aC b0 yX8_drop (Cond.code yX8_drop cX8_drop 6 none) 3 71 [.ref (a0), .int (p0), .int (p1)] σ (.inl none) τ := by
  unfold m_X8_drop at hm
  obtain ⟨hg, hm⟩ := grw_e hm
  refine tMt_of (n := 0) rfl (Nat.le_of_ble_eq_true rfl) hg ?_
  intro p e s m below meth c C htab hin
  refine zx_lv [0, 1, 2] [(0, .ref (a0)), (1, .int (p0)), (2, .int (p1))] rfl ?_
  refine zx_aload_n C dX8_drop_0 0 rfl ?_
  refine zx_iload_n C dX8_drop_1 1 rfl ?_
  refine zx_iload_n C dX8_drop_2 2 rfl ?_
  obtain ⟨k1, i2, hm⟩ := ckO_e hm
  obtain ⟨v3, ρ4, h5, hm⟩ := cll_e hm
  refine zx_callV (σ := σ) C [.int (p0), .int (p1)] tC_8 k1 i2 Y_X8_pointer W_4_109 W_4_110 W_4_111 (c_X8_pointer h5) (by decide) (by decide) rfl (Nat.le_of_ble_eq_true rfl) dX8_drop_3 rfl ?_
  refine zx_lstore_n C [(3, .long (v3)), (0, .ref (a0)), (1, .int (p0)), (2, .int (p1))] dX8_drop_6 rfl (by decide) rfl ?_
  refine zx_lload_n C dX8_drop_7 0 rfl ?_
  refine zx_lconst (v := 0) C dX8_drop_8 (by decide) ?_
  refine zx_lcmp C dX8_drop_9 ?_
  refine zx_if_ne C 14 dX8_drop_10 (by decide) (fun c6 => ?_) (fun c6 => ?_)
  · replace hm := in_e hm c6
    refine zx_aload_n C dX8_drop_14 1 rfl ?_
    refine zx_iload_n C dX8_drop_15 2 rfl ?_
    refine zx_iload_n C dX8_drop_16 3 rfl ?_
    refine zx_lconst (v := 0) C dX8_drop_17 (by decide) ?_
    obtain ⟨k7, i8, hm⟩ := ckO_e hm
    obtain ⟨v9, ρ10, h11, hm⟩ := cll_e hm
    refine zx_callV (σ := ρ4) C [.int (p0), .int (p1), .long (0)] tC_8 k7 i8 Y_X8_setPointer W_4_220 W_4_222 Wp_31 (c_X8_setPointer h11) (by decide) (by decide) rfl (Nat.le_of_ble_eq_true rfl) dX8_drop_18 rfl ?_
    refine zx_aload_n C dX8_drop_21 1 rfl ?_
    obtain ⟨k12, i13, hm⟩ := ckO_e hm
    obtain ⟨a14, h15, hm⟩ := osm_e hm
    refine zx_get (j := 0) C tC_8 k12 i13 ⟨by decide, Or.inl W_1_163⟩ dX8_drop_22 (.ref a14) (rf_s h15) ?_
    refine zx_lload_n C dX8_drop_25 0 rfl ?_
    obtain ⟨v16, ρ17, h18, hm⟩ := cll_e hm
    refine zx_callS (σ := ρ10) C [.long (v3)] Y_X8_cellOf W_4_117 W_4_118 (c_X8_cellOf h18) (by decide) (by decide) rfl (Nat.le_of_ble_eq_true rfl) dX8_drop_26 rfl ?_
    refine zx_aload_n C dX8_drop_29 1 rfl ?_
    refine zx_iload_n C dX8_drop_30 2 rfl ?_
    obtain ⟨k19, i20, hm⟩ := ckO_e hm
    obtain ⟨v21, ρ22, h23, hm⟩ := cll_e hm
    refine zx_callV (σ := ρ17) C [.int (p0)] tC_8 k19 i20 Y_X8_kind W_3_79 W_3_80 W_3_81 (c_X8_kind h23) (by decide) (by decide) rfl (Nat.le_of_ble_eq_true rfl) dX8_drop_31 rfl ?_
    refine zx_iconst (v := 2) C dX8_drop_34 (by decide) ?_
    refine zx_icmp_ne C 42 dX8_drop_35 (by decide) (fun c24 => ?_) (fun c24 => ?_)
    · replace hm := in_e hm c24
      refine zx_iconst (v := 0) C dX8_drop_42 (by decide) ?_
      exact zx_lv [1, 2, 3] [(0, .ref (a0)), (1, .int (p0)), (2, .int (p1))] rfl (j_X8_drop_43 C htab hin    hm)
    · replace hm := ip_e hm c24
      refine zx_iconst (v := 1) C dX8_drop_38 (by decide) ?_
      refine zx_goto C 43 dX8_drop_39 (by decide) ?_
      exact zx_lv [1, 2, 3] [(0, .ref (a0)), (1, .int (p0)), (2, .int (p1))] rfl (j_X8_drop_43 C htab hin    hm)
  · replace hm := ip_e hm c6
    obtain ⟨rfl, rfl⟩ := ret_e hm
    exact zx_vret C rfl rfl rfl dX8_drop_13
