abbrev cX1_isRevokedLater : ByteArray := prog_3_method_19_code
def yX1_isRevokedLater : MethodName := ⟨"SyncTree$Journal", "isRevokedLater", "(LSyncTree$Transaction;I)Z"⟩
theorem Y_X1_isRevokedLater : tY yX1_isRevokedLater cX1_isRevokedLater 4 (some .boolean) 2 := ⟨W_4_0, W_1_5, ⟨by decide +kernel, by decide +kernel⟩, by decide +kernel⟩
theorem dX1_isRevokedLater_0 : decode cX1_isRevokedLater 0 = .ok (.aload_n 1, 1) := by decide +kernel
theorem dX1_isRevokedLater_1 : decode cX1_isRevokedLater 1 = .ok (.getfield 155, 3) := by decide +kernel
theorem dX1_isRevokedLater_4 : decode cX1_isRevokedLater 4 = .ok (.astore_n 3, 1) := by decide +kernel
theorem dX1_isRevokedLater_5 : decode cX1_isRevokedLater 5 = .ok (.aload_n 3, 1) := by decide +kernel
theorem dX1_isRevokedLater_6 : decode cX1_isRevokedLater 6 = .ok (.ifnull 32, 3) := by decide +kernel
theorem dX1_isRevokedLater_9 : decode cX1_isRevokedLater 9 = .ok (.aload_n 3, 1) := by decide +kernel
theorem dX1_isRevokedLater_10 : decode cX1_isRevokedLater 10 = .ok (.getfield 183, 3) := by decide +kernel
theorem dX1_isRevokedLater_13 : decode cX1_isRevokedLater 13 = .ok (.aload_n 0, 1) := by decide +kernel
theorem dX1_isRevokedLater_14 : decode cX1_isRevokedLater 14 = .ok (.getfield 69, 3) := by decide +kernel
theorem dX1_isRevokedLater_17 : decode cX1_isRevokedLater 17 = .ok (.if_icmp .gt 21, 3) := by decide +kernel
theorem dX1_isRevokedLater_20 : decode cX1_isRevokedLater 20 = .ok (.aload_n 3, 1) := by decide +kernel
theorem dX1_isRevokedLater_21 : decode cX1_isRevokedLater 21 = .ok (.iload_n 2, 1) := by decide +kernel
theorem dX1_isRevokedLater_22 : decode cX1_isRevokedLater 22 = .ok (.invokevirtual 206, 3) := by decide +kernel
theorem dX1_isRevokedLater_25 : decode cX1_isRevokedLater 25 = .ok (.ifCond .eq 5, 3) := by decide +kernel
theorem dX1_isRevokedLater_28 : decode cX1_isRevokedLater 28 = .ok (.iconst 1, 1) := by decide +kernel
theorem dX1_isRevokedLater_29 : decode cX1_isRevokedLater 29 = .ok (.ireturn, 1) := by decide +kernel
theorem dX1_isRevokedLater_30 : decode cX1_isRevokedLater 30 = .ok (.aload_n 3, 1) := by decide +kernel
theorem dX1_isRevokedLater_31 : decode cX1_isRevokedLater 31 = .ok (.getfield 155, 3) := by decide +kernel
theorem dX1_isRevokedLater_34 : decode cX1_isRevokedLater 34 = .ok (.astore_n 3, 1) := by decide +kernel
theorem dX1_isRevokedLater_35 : decode cX1_isRevokedLater 35 = .ok (.goto (-30), 3) := by decide +kernel
theorem dX1_isRevokedLater_38 : decode cX1_isRevokedLater 38 = .ok (.iconst 0, 1) := by decide +kernel
theorem dX1_isRevokedLater_39 : decode cX1_isRevokedLater 39 = .ok (.ireturn, 1) := by decide +kernel
def J_X1_isRevokedLater_38 (b0 fu : Nat)   (σ : tM) : Option ((Int32) × tM) := some (0, σ)
def L_X1_isRevokedLater_5 (b0 fu : Nat)  : Nat → Nat → Int32 → Option Nat → tM → Option ((Int32) × tM)
  | 0, _, _, _, _ => none
  | n + 1, x0, x2, x3, σ => ltb (L_X1_isRevokedLater_5 b0 fu  n) (fun rc5 => omt (x3) (fun o5 => ckO b0 (σ) (o5) 7 (ckO b0 (σ) (x0) 1 (if (tI (σ) (x0) 13) < (tI (σ) (o5) 0) then J_X1_isRevokedLater_38 b0 fu    (σ) else cll (m_X7_revokes b0 fu (o5) (x2) (σ)) (fun v12 ρ13 => if (v12) = (0) then ckO b0 (ρ13) (o5) 7 (omt (tA (ρ13) (o5) 7) (fun a18 => rc5 (x0) (x2) (some (a18)) (ρ13)) (rc5 (x0) (x2) (none) (ρ13))) else some (1, ρ13))))) (J_X1_isRevokedLater_38 b0 fu    (σ)))
def m_X1_isRevokedLater (b0 fu : Nat) (a0 : Nat) (p0 : Nat) (p1 : Int32) (σ : tM) : Option ((Int32) × tM) := grw σ (ckO b0 (σ) (p0) 7 (omt (tA (σ) (p0) 7) (fun a3 => L_X1_isRevokedLater_5 b0 fu  (fu) (a0) (p1) (some (a3)) (σ)) (L_X1_isRevokedLater_5 b0 fu  (fu) (a0) (p1) (none) (σ))))
set_option maxRecDepth 100000 in
set_option maxHeartbeats 1000000 in
theorem j_X1_isRevokedLater_38 {p : Program} {l : Launch} {e : Env} {s : State} {m : MethodId} {args : Array Value} {below : List Frame} {meth : Method} {c : Code} {D : va_G} {aC : Nat → ClassId} {b0 fu : Nat} {σ0 τ : tM} {v : Int32}  (C : tCx p l s m args meth c yX1_isRevokedLater.cls cX1_isRevokedLater 4 (some .boolean) D aC b0 σ0) (htab : ∀ x ∈ c.exceptionTable.toList, False) (hin : meth.name = yX1_isRevokedLater.name)   {σ : tM} (hm : J_X1_isRevokedLater_38 b0 fu   σ = some (v, τ)) : tX p l e s m args below meth c 4 1 22 D aC b0 σ0 (.inl (some (.int v))) τ 38 [] [] σ := by
  unfold J_X1_isRevokedLater_38 at hm
  refine zx_iconst (v := 0) C dX1_isRevokedLater_38 (by decide) ?_
  obtain ⟨rfl, rfl⟩ := ret_e hm
  exact zx_zret C rfl (by decide) rfl rfl dX1_isRevokedLater_39
set_option maxRecDepth 100000 in
set_option maxHeartbeats 1000000 in
theorem l_X1_isRevokedLater_5 {p : Program} {l : Launch} {e : Env} {s : State} {m : MethodId} {args : Array Value} {below : List Frame} {meth : Method} {c : Code} {D : va_G} {aC : Nat → ClassId} {b0 fu : Nat} {σ0 τ : tM} {v : Int32}  (C : tCx p l s m args meth c yX1_isRevokedLater.cls cX1_isRevokedLater 4 (some .boolean) D aC b0 σ0) (htab : ∀ x ∈ c.exceptionTable.toList, False) (hin : meth.name = yX1_isRevokedLater.name)  : ∀ (n : Nat) (x0 : Nat) (x2 : Int32) (x3 : Option Nat) (σ : tM), L_X1_isRevokedLater_5 b0 fu  n x0 x2 x3 σ = some (v, τ) → tX p l e s m args below meth c 4 1 22 D aC b0 σ0 (.inl (some (.int v))) τ 5 [(0, .ref (x0)), (2, .int (x2)), (3, va_rf (x3))] [] σ := by
  intro n
  induction n with
  | zero => intro x0 x2 x3 σ hm; unfold L_X1_isRevokedLater_5 at hm; cases hm
  | succ n ih =>
    intro x0 x2 x3 σ hm
    unfold L_X1_isRevokedLater_5 at hm
    obtain ⟨rc5, hrc⟩ : ∃ z, z = L_X1_isRevokedLater_5 b0 fu  n := ⟨_, rfl⟩
    replace hm := ltb_e hm hrc
    rw [← hrc] at ih
    have hrc5 := ih
    clear ih hrc
    rcases omt_e hm with ⟨o5, h6, hm⟩ | ⟨h6, hm⟩
    · refine zx_lv [0, 1, 2] [(0, .ref (x0)), (2, .int (x2)), (3, .ref (o5))] (by rw [h6]; rfl) ?_
      refine zx_aload_n C dX1_isRevokedLater_5 2 rfl ?_
      refine zx_ifnull C dX1_isRevokedLater_6 ?_
      refine zx_aload_n C dX1_isRevokedLater_9 2 rfl ?_
      obtain ⟨k7, i8, hm⟩ := ckO_e hm
      refine zx_get (j := 0) C tC_7 k7 i8 ⟨by decide, Or.inr ⟨_, W_4_22⟩⟩ dX1_isRevokedLater_10 (.int (tI (σ) (o5) 0)) rfl ?_
      refine zx_aload_n C dX1_isRevokedLater_13 0 rfl ?_
      obtain ⟨k9, i10, hm⟩ := ckO_e hm
      refine zx_get (j := 13) C tC_1 k9 i10 ⟨by decide, Or.inl W_1_193⟩ dX1_isRevokedLater_14 (.int (tI (σ) (x0) 13)) rfl ?_
      refine zx_icmp_gt C 38 dX1_isRevokedLater_17 (by decide) (fun c11 => ?_) (fun c11 => ?_)
      · replace hm := ip_e hm c11
        exact zx_lv [] [] rfl (j_X1_isRevokedLater_38 C htab hin    hm)
      · replace hm := in_e hm c11
        refine zx_aload_n C dX1_isRevokedLater_20 2 rfl ?_
        refine zx_iload_n C dX1_isRevokedLater_21 1 rfl ?_
        obtain ⟨v12, ρ13, h14, hm⟩ := cll_e hm
        refine zx_callV (σ := σ) C [.int (x2)] tC_7 k7 i8 Y_X7_revokes W_4_1 W_4_2 W_4_3 (c_X7_revokes h14) (by decide) (by decide) rfl (Nat.le_of_ble_eq_true rfl) dX1_isRevokedLater_22 rfl ?_
        refine zx_if_eq C 30 dX1_isRevokedLater_25 (by decide) (fun c15 => ?_) (fun c15 => ?_)
        · replace hm := ip_e hm c15
          refine zx_aload_n C dX1_isRevokedLater_30 2 rfl ?_
          obtain ⟨k16, i17, hm⟩ := ckO_e hm
          rcases omt_e hm with ⟨a18, h19, hm⟩ | ⟨h19, hm⟩
          · refine zx_get (j := 7) C tC_7 k16 i17 ⟨by decide, Or.inr ⟨_, W_4_35⟩⟩ dX1_isRevokedLater_31 (.ref a18) (rf_s h19) ?_
            refine zx_astore_n C [(3, .ref (a18)), (0, .ref (x0)), (2, .int (x2))] dX1_isRevokedLater_34 rfl (by decide) rfl ?_
            refine zx_goto C 5 dX1_isRevokedLater_35 (by decide) ?_
            exact zx_lv [1, 2, 0] [(0, .ref (x0)), (2, .int (x2)), (3, va_rf (some (a18)))] rfl (hrc5 _ _ _ _ hm)
          · refine zx_get (j := 7) C tC_7 k16 i17 ⟨by decide, Or.inr ⟨_, W_4_35⟩⟩ dX1_isRevokedLater_31 .null (rf_n h19) ?_
            refine zx_astore_nN C [(3, .null), (0, .ref (x0)), (2, .int (x2))] dX1_isRevokedLater_34 rfl (by decide) rfl ?_
            refine zx_goto C 5 dX1_isRevokedLater_35 (by decide) ?_
            exact zx_lv [1, 2, 0] [(0, .ref (x0)), (2, .int (x2)), (3, va_rf (none))] rfl (hrc5 _ _ _ _ hm)
        · replace hm := in_e hm c15
          refine zx_iconst (v := 1) C dX1_isRevokedLater_28 (by decide) ?_
          obtain ⟨rfl, rfl⟩ := ret_e hm
          exact zx_zret C rfl (by decide) rfl rfl dX1_isRevokedLater_29
    · refine zx_lv [0, 1, 2] [(0, .ref (x0)), (2, .int (x2)), (3, .null)] (by rw [h6]; rfl) ?_
      refine zx_aload_nN C dX1_isRevokedLater_5 2 rfl ?_
      refine zx_ifnullN C 38 dX1_isRevokedLater_6 (by decide) ?_
      exact zx_lv [] [] rfl (j_X1_isRevokedLater_38 C htab hin    hm)
set_option maxRecDepth 100000 in
set_option maxHeartbeats 1000000 in
theorem c_X1_isRevokedLater {l : Launch} {D : va_G} {aC : Nat → ClassId} {b0 fu : Nat} {a0 : Nat} {p0 : Nat} {p1 : Int32} {σ τ : tM} {v : Int32} (hm : m_X1_isRevokedLater b0 fu a0 p0 p1 σ = some (v, τ)) : tMt l D aC b0 yX1_isRevokedLater (Cond.code yX1_isRevokedLater cX1_isRevokedLater 4 (some .boolean)) 1 22 [.ref (a0), .ref (p0), .int (p1)] σ (.inl (some (.int v))) τ := by
  unfold m_X1_isRevokedLater at hm
  obtain ⟨hg, hm⟩ := grw_e hm
  refine tMt_of (n := 0) rfl (Nat.le_of_ble_eq_true rfl) hg ?_
  intro p e s m below meth c C htab hin
  refine zx_lv [0, 1, 2] [(0, .ref (a0)), (1, .ref (p0)), (2, .int (p1))] rfl ?_
  refine zx_aload_n C dX1_isRevokedLater_0 1 rfl ?_
  obtain ⟨k1, i2, hm⟩ := ckO_e hm
  rcases omt_e hm with ⟨a3, h4, hm⟩ | ⟨h4, hm⟩
  · refine zx_get (j := 7) C tC_7 k1 i2 ⟨by decide, Or.inr ⟨_, W_4_35⟩⟩ dX1_isRevokedLater_1 (.ref a3) (rf_s h4) ?_
    refine zx_astore_n C [(3, .ref (a3)), (0, .ref (a0)), (1, .ref (p0)), (2, .int (p1))] dX1_isRevokedLater_4 rfl (by decide) rfl ?_
    exact zx_lv [1, 3, 0] [(0, .ref (a0)), (2, .int (p1)), (3, va_rf (some (a3)))] rfl (l_X1_isRevokedLater_5 C htab hin  _ _ _ _ _ hm)
  · refine zx_get (j := 7) C tC_7 k1 i2 ⟨by decide, Or.inr ⟨_, W_4_35⟩⟩ dX1_isRevokedLater_1 .null (rf_n h4) ?_
    refine zx_astore_nN C [(3, .null), (0, .ref (a0)), (1, .ref (p0)), (2, .int (p1))] dX1_isRevokedLater_4 rfl (by decide) rfl ?_
    exact zx_lv [1, 3, 0] [(0, .ref (a0)), (2, .int (p1)), (3, va_rf (none))] rfl (l_X1_isRevokedLater_5 C htab hin  _ _ _ _ _ hm)
abbrev cX1_lastWhole : ByteArray := prog_3_method_21_code
def yX1_lastWhole : MethodName := ⟨"SyncTree$Journal", "lastWhole", "(I)I"⟩
theorem Y_X1_lastWhole : tY yX1_lastWhole cX1_lastWhole 4 (some .int) 1 := ⟨W_6_132, W_1_5, ⟨by decide +kernel, by decide +kernel⟩, by decide +kernel⟩
theorem dX1_lastWhole_0 : decode cX1_lastWhole 0 = .ok (.iload_n 1, 1) := by decide +kernel
theorem dX1_lastWhole_1 : decode cX1_lastWhole 1 = .ok (.istore_n 2, 1) := by decide +kernel
theorem dX1_lastWhole_2 : decode cX1_lastWhole 2 = .ok (.aload_n 0, 1) := by decide +kernel
theorem dX1_lastWhole_3 : decode cX1_lastWhole 3 = .ok (.getfield 152, 3) := by decide +kernel
theorem dX1_lastWhole_6 : decode cX1_lastWhole 6 = .ok (.astore_n 3, 1) := by decide +kernel
theorem dX1_lastWhole_7 : decode cX1_lastWhole 7 = .ok (.aload_n 3, 1) := by decide +kernel
theorem dX1_lastWhole_8 : decode cX1_lastWhole 8 = .ok (.ifnull 34, 3) := by decide +kernel
theorem dX1_lastWhole_11 : decode cX1_lastWhole 11 = .ok (.aload_n 3, 1) := by decide +kernel
theorem dX1_lastWhole_12 : decode cX1_lastWhole 12 = .ok (.getfield 183, 3) := by decide +kernel
theorem dX1_lastWhole_15 : decode cX1_lastWhole 15 = .ok (.iload_n 1, 1) := by decide +kernel
theorem dX1_lastWhole_16 : decode cX1_lastWhole 16 = .ok (.if_icmp .le 18, 3) := by decide +kernel
theorem dX1_lastWhole_19 : decode cX1_lastWhole 19 = .ok (.aload_n 0, 1) := by decide +kernel
theorem dX1_lastWhole_20 : decode cX1_lastWhole 20 = .ok (.aload_n 3, 1) := by decide +kernel
theorem dX1_lastWhole_21 : decode cX1_lastWhole 21 = .ok (.invokevirtual 221, 3) := by decide +kernel
theorem dX1_lastWhole_24 : decode cX1_lastWhole 24 = .ok (.ifCond .ne 5, 3) := by decide +kernel
theorem dX1_lastWhole_27 : decode cX1_lastWhole 27 = .ok (.iload_n 2, 1) := by decide +kernel
theorem dX1_lastWhole_28 : decode cX1_lastWhole 28 = .ok (.ireturn, 1) := by decide +kernel
theorem dX1_lastWhole_29 : decode cX1_lastWhole 29 = .ok (.aload_n 3, 1) := by decide +kernel
theorem dX1_lastWhole_30 : decode cX1_lastWhole 30 = .ok (.getfield 183, 3) := by decide +kernel
theorem dX1_lastWhole_33 : decode cX1_lastWhole 33 = .ok (.istore_n 2, 1) := by decide +kernel
theorem dX1_lastWhole_34 : decode cX1_lastWhole 34 = .ok (.aload_n 3, 1) := by decide +kernel
theorem dX1_lastWhole_35 : decode cX1_lastWhole 35 = .ok (.getfield 155, 3) := by decide +kernel
theorem dX1_lastWhole_38 : decode cX1_lastWhole 38 = .ok (.astore_n 3, 1) := by decide +kernel
theorem dX1_lastWhole_39 : decode cX1_lastWhole 39 = .ok (.goto (-32), 3) := by decide +kernel
theorem dX1_lastWhole_42 : decode cX1_lastWhole 42 = .ok (.iload_n 2, 1) := by decide +kernel
theorem dX1_lastWhole_43 : decode cX1_lastWhole 43 = .ok (.ireturn, 1) := by decide +kernel
def J_X1_lastWhole_34 (b0 fu : Nat) (rc7 : Nat → Int32 → Int32 → Option Nat → tM → Option ((Int32) × tM)) (x0 : Nat) (x1 : Int32) (x2 : Int32) (x3 : Option Nat) (σ : tM) : Option ((Int32) × tM) := omt (x3) (fun o10 => ckO b0 (σ) (o10) 7 (omt (tA (σ) (o10) 7) (fun a14 => rc7 (x0) (x1) (x2) (some (a14)) (σ)) (rc7 (x0) (x1) (x2) (none) (σ)))) (none)
def L_X1_lastWhole_7 (b0 fu : Nat)  : Nat → Nat → Int32 → Int32 → Option Nat → tM → Option ((Int32) × tM)
  | 0, _, _, _, _, _ => none
  | n + 1, x0, x1, x2, x3, σ => ltb (L_X1_lastWhole_7 b0 fu  n) (fun rc7 => omt (x3) (fun o5 => ckO b0 (σ) (o5) 7 (if (tI (σ) (o5) 0) ≤ (x1) then J_X1_lastWhole_34 b0 fu rc7  (x0) (x1) (x2) (some (o5)) (σ) else ckO b0 (σ) (x0) 1 (cll (m_X1_isWhole b0 fu (x0) (o5) (σ)) (fun v18 ρ19 => if (v18) = (0) then some (x2, ρ19) else ckO b0 (ρ19) (o5) 7 (ltb ((tI (ρ19) (o5) 0 : Int32)) (fun y24 => J_X1_lastWhole_34 b0 fu rc7  (x0) (x1) (y24) (some (o5)) (ρ19))))))) (some (x2, σ)))
def m_X1_lastWhole (b0 fu : Nat) (a0 : Nat) (p0 : Int32) (σ : tM) : Option ((Int32) × tM) := grw σ (ckO b0 (σ) (a0) 1 (omt (tA (σ) (a0) 5) (fun a3 => L_X1_lastWhole_7 b0 fu  (fu) (a0) (p0) (p0) (some (a3)) (σ)) (L_X1_lastWhole_7 b0 fu  (fu) (a0) (p0) (p0) (none) (σ))))
set_option maxRecDepth 100000 in
set_option maxHeartbeats 1000000 in
theorem j_X1_lastWhole_34 {p : Program} {l : Launch} {e : Env} {s : State} {m : MethodId} {args : Array Value} {below : List Frame} {meth : Method} {c : Code} {D : va_G} {aC : Nat → ClassId} {b0 fu : Nat} {σ0 τ : tM} {v : Int32} {rc7 : Nat → Int32 → Int32 → Option Nat → tM → Option ((Int32) × tM)} (C : tCx p l s m args meth c yX1_lastWhole.cls cX1_lastWhole 4 (some .int) D aC b0 σ0) (htab : ∀ x ∈ c.exceptionTable.toList, False) (hin : meth.name = yX1_lastWhole.name) (hrc7 : ∀ (x0 : Nat) (x1 : Int32) (x2 : Int32) (x3 : Option Nat) (ρ : tM), rc7 x0 x1 x2 x3 ρ = some (v, τ) → tX p l e s m args below meth c 4 2 43 D aC b0 σ0 (.inl (some (.int v))) τ 7 [(0, .ref (x0)), (1, .int (x1)), (2, .int (x2)), (3, va_rf (x3))] [] ρ) {x0 : Nat} {x1 : Int32} {x2 : Int32} {x3 : Option Nat} {σ : tM} (hm : J_X1_lastWhole_34 b0 fu rc7 x0 x1 x2 x3 σ = some (v, τ)) : tX p l e s m args below meth c 4 2 43 D aC b0 σ0 (.inl (some (.int v))) τ 34 [(0, .ref (x0)), (1, .int (x1)), (2, .int (x2)), (3, va_rf (x3))] [] σ := by
  unfold J_X1_lastWhole_34 at hm
  rcases omt_e hm with ⟨o10, h11, hm⟩ | ⟨h11, hm⟩
  · refine zx_lv [0, 1, 2, 3] [(0, .ref (x0)), (1, .int (x1)), (2, .int (x2)), (3, .ref (o10))] (by rw [h11]; rfl) ?_
    refine zx_aload_n C dX1_lastWhole_34 3 rfl ?_
    obtain ⟨k12, i13, hm⟩ := ckO_e hm
    rcases omt_e hm with ⟨a14, h15, hm⟩ | ⟨h15, hm⟩
    · refine zx_get (j := 7) C tC_7 k12 i13 ⟨by decide, Or.inr ⟨_, W_4_35⟩⟩ dX1_lastWhole_35 (.ref a14) (rf_s h15) ?_
      refine zx_astore_n C [(3, .ref (a14)), (0, .ref (x0)), (1, .int (x1)), (2, .int (x2))] dX1_lastWhole_38 rfl (by decide) rfl ?_
      refine zx_goto C 7 dX1_lastWhole_39 (by decide) ?_
      exact zx_lv [1, 2, 3, 0] [(0, .ref (x0)), (1, .int (x1)), (2, .int (x2)), (3, va_rf (some (a14)))] rfl (hrc7 _ _ _ _ _ hm)
    · refine zx_get (j := 7) C tC_7 k12 i13 ⟨by decide, Or.inr ⟨_, W_4_35⟩⟩ dX1_lastWhole_35 .null (rf_n h15) ?_
      refine zx_astore_nN C [(3, .null), (0, .ref (x0)), (1, .int (x1)), (2, .int (x2))] dX1_lastWhole_38 rfl (by decide) rfl ?_
      refine zx_goto C 7 dX1_lastWhole_39 (by decide) ?_
      exact zx_lv [1, 2, 3, 0] [(0, .ref (x0)), (1, .int (x1)), (2, .int (x2)), (3, va_rf (none))] rfl (hrc7 _ _ _ _ _ hm)
  · refine zx_lv [0, 1, 2, 3] [(0, .ref (x0)), (1, .int (x1)), (2, .int (x2)), (3, .null)] (by rw [h11]; rfl) ?_
    refine zx_aload_nN C dX1_lastWhole_34 3 rfl ?_
    cases hm
set_option maxRecDepth 100000 in
set_option maxHeartbeats 1000000 in
theorem l_X1_lastWhole_7 {p : Program} {l : Launch} {e : Env} {s : State} {m : MethodId} {args : Array Value} {below : List Frame} {meth : Method} {c : Code} {D : va_G} {aC : Nat → ClassId} {b0 fu : Nat} {σ0 τ : tM} {v : Int32}  (C : tCx p l s m args meth c yX1_lastWhole.cls cX1_lastWhole 4 (some .int) D aC b0 σ0) (htab : ∀ x ∈ c.exceptionTable.toList, False) (hin : meth.name = yX1_lastWhole.name)  : ∀ (n : Nat) (x0 : Nat) (x1 : Int32) (x2 : Int32) (x3 : Option Nat) (σ : tM), L_X1_lastWhole_7 b0 fu  n x0 x1 x2 x3 σ = some (v, τ) → tX p l e s m args below meth c 4 2 43 D aC b0 σ0 (.inl (some (.int v))) τ 7 [(0, .ref (x0)), (1, .int (x1)), (2, .int (x2)), (3, va_rf (x3))] [] σ := by
  intro n
  induction n with
  | zero => intro x0 x1 x2 x3 σ hm; unfold L_X1_lastWhole_7 at hm; cases hm
  | succ n ih =>
    intro x0 x1 x2 x3 σ hm
    unfold L_X1_lastWhole_7 at hm
    obtain ⟨rc7, hrc⟩ : ∃ z, z = L_X1_lastWhole_7 b0 fu  n := ⟨_, rfl⟩
    replace hm := ltb_e hm hrc
    rw [← hrc] at ih
    have hrc7 := ih
    clear ih hrc
    rcases omt_e hm with ⟨o5, h6, hm⟩ | ⟨h6, hm⟩
    · refine zx_lv [0, 1, 2, 3] [(0, .ref (x0)), (1, .int (x1)), (2, .int (x2)), (3, .ref (o5))] (by rw [h6]; rfl) ?_
      refine zx_aload_n C dX1_lastWhole_7 3 rfl ?_
      refine zx_ifnull C dX1_lastWhole_8 ?_
      refine zx_aload_n C dX1_lastWhole_11 3 rfl ?_
      obtain ⟨k7, i8, hm⟩ := ckO_e hm
      refine zx_get (j := 0) C tC_7 k7 i8 ⟨by decide, Or.inr ⟨_, W_4_22⟩⟩ dX1_lastWhole_12 (.int (tI (σ) (o5) 0)) rfl ?_
      refine zx_iload_n C dX1_lastWhole_15 1 rfl ?_
      refine zx_icmp_le C 34 dX1_lastWhole_16 (by decide) (fun c9 => ?_) (fun c9 => ?_)
      · replace hm := ip_e hm c9
        exact zx_lv [0, 1, 2, 3] [(0, .ref (x0)), (1, .int (x1)), (2, .int (x2)), (3, va_rf (some (o5)))] rfl (j_X1_lastWhole_34 C htab hin hrc7   hm)
      · replace hm := in_e hm c9
        refine zx_aload_n C dX1_lastWhole_19 0 rfl ?_
        refine zx_aload_n C dX1_lastWhole_20 3 rfl ?_
        obtain ⟨k16, i17, hm⟩ := ckO_e hm
        obtain ⟨v18, ρ19, h20, hm⟩ := cll_e hm
        refine zx_callV (σ := σ) C [.ref (o5)] tC_1 k16 i17 Y_X1_isWhole W_6_133 W_6_135 Wp_47 (c_X1_isWhole h20) (by decide) (by decide) rfl (Nat.le_of_ble_eq_true rfl) dX1_lastWhole_21 rfl ?_
        refine zx_if_ne C 29 dX1_lastWhole_24 (by decide) (fun c21 => ?_) (fun c21 => ?_)
        · replace hm := in_e hm c21
          refine zx_aload_n C dX1_lastWhole_29 3 rfl ?_
          obtain ⟨k22, i23, hm⟩ := ckO_e hm
          refine zx_get (j := 0) C tC_7 k22 i23 ⟨by decide, Or.inr ⟨_, W_4_22⟩⟩ dX1_lastWhole_30 (.int (tI (ρ19) (o5) 0)) rfl ?_
          refine zx_topi (fun y24 hy24 => ?_)
          replace hm := ltb_e hm hy24
          refine zx_istore_n C [(2, .int (y24)), (0, .ref (x0)), (1, .int (x1)), (3, .ref (o5))] dX1_lastWhole_33 rfl (by decide) rfl ?_
          exact zx_lv [1, 2, 0, 3] [(0, .ref (x0)), (1, .int (x1)), (2, .int (y24)), (3, va_rf (some (o5)))] rfl (j_X1_lastWhole_34 C htab hin hrc7   hm)
        · replace hm := ip_e hm c21
          refine zx_iload_n C dX1_lastWhole_27 2 rfl ?_
          obtain ⟨rfl, rfl⟩ := ret_e hm
          exact zx_iret C rfl rfl rfl dX1_lastWhole_28
    · refine zx_lv [0, 1, 2, 3] [(0, .ref (x0)), (1, .int (x1)), (2, .int (x2)), (3, .null)] (by rw [h6]; rfl) ?_
      refine zx_aload_nN C dX1_lastWhole_7 3 rfl ?_
      refine zx_ifnullN C 42 dX1_lastWhole_8 (by decide) ?_
      refine zx_iload_n C dX1_lastWhole_42 2 rfl ?_
      obtain ⟨rfl, rfl⟩ := ret_e hm
      exact zx_iret C rfl rfl rfl dX1_lastWhole_43
set_option maxRecDepth 100000 in
set_option maxHeartbeats 1000000 in
theorem c_X1_lastWhole {l : Launch} {D : va_G} {aC : Nat → ClassId} {b0 fu : Nat} {a0 : Nat} {p0 : Int32} {σ τ : tM} {v : Int32} (hm : m_X1_lastWhole b0 fu a0 p0 σ = some (v, τ)) : tMt l D aC b0 yX1_lastWhole (Cond.code yX1_lastWhole cX1_lastWhole 4 (some .int)) 2 43 [.ref (a0), .int (p0)] σ (.inl (some (.int v))) τ := by
  unfold m_X1_lastWhole at hm
  obtain ⟨hg, hm⟩ := grw_e hm
  refine tMt_of (n := 0) rfl (Nat.le_of_ble_eq_true rfl) hg ?_
  intro p e s m below meth c C htab hin
  refine zx_lv [0, 1] [(0, .ref (a0)), (1, .int (p0))] rfl ?_
  refine zx_iload_n C dX1_lastWhole_0 1 rfl ?_
  refine zx_istore_n C [(2, .int (p0)), (0, .ref (a0)), (1, .int (p0))] dX1_lastWhole_1 rfl (by decide) rfl ?_
  refine zx_aload_n C dX1_lastWhole_2 1 rfl ?_
  obtain ⟨k1, i2, hm⟩ := ckO_e hm
  rcases omt_e hm with ⟨a3, h4, hm⟩ | ⟨h4, hm⟩
  · refine zx_get (j := 5) C tC_1 k1 i2 ⟨by decide, Or.inl W_1_185⟩ dX1_lastWhole_3 (.ref a3) (rf_s h4) ?_
    refine zx_astore_n C [(3, .ref (a3)), (2, .int (p0)), (0, .ref (a0)), (1, .int (p0))] dX1_lastWhole_6 rfl (by decide) rfl ?_
    exact zx_lv [2, 3, 1, 0] [(0, .ref (a0)), (1, .int (p0)), (2, .int (p0)), (3, va_rf (some (a3)))] rfl (l_X1_lastWhole_7 C htab hin  _ _ _ _ _ _ hm)
  · refine zx_get (j := 5) C tC_1 k1 i2 ⟨by decide, Or.inl W_1_185⟩ dX1_lastWhole_3 .null (rf_n h4) ?_
    refine zx_astore_nN C [(3, .null), (2, .int (p0)), (0, .ref (a0)), (1, .int (p0))] dX1_lastWhole_6 rfl (by decide) rfl ?_
    exact zx_lv [2, 3, 1, 0] [(0, .ref (a0)), (1, .int (p0)), (2, .int (p0)), (3, va_rf (none))] rfl (l_X1_lastWhole_7 C htab hin  _ _ _ _ _ _ hm)
abbrev cX1_markReplayed : ByteArray := prog_3_method_23_code
def yX1_markReplayed : MethodName := ⟨"SyncTree$Journal", "markReplayed", "(II)V"⟩
theorem Y_X1_markReplayed : tY yX1_markReplayed cX1_markReplayed 4 none 2 := ⟨W_6_140, W_1_5, ⟨by decide +kernel, by decide +kernel⟩, by decide +kernel⟩
theorem dX1_markReplayed_0 : decode cX1_markReplayed 0 = .ok (.aload_n 0, 1) := by decide +kernel
theorem dX1_markReplayed_1 : decode cX1_markReplayed 1 = .ok (.getfield 17, 3) := by decide +kernel
theorem dX1_markReplayed_4 : decode cX1_markReplayed 4 = .ok (.iconst 0, 1) := by decide +kernel
theorem dX1_markReplayed_5 : decode cX1_markReplayed 5 = .ok (.invokestatic 226, 3) := by decide +kernel
theorem dX1_markReplayed_8 : decode cX1_markReplayed 8 = .ok (.aload_n 0, 1) := by decide +kernel
theorem dX1_markReplayed_9 : decode cX1_markReplayed 9 = .ok (.getfield 152, 3) := by decide +kernel
theorem dX1_markReplayed_12 : decode cX1_markReplayed 12 = .ok (.astore_n 3, 1) := by decide +kernel
theorem dX1_markReplayed_13 : decode cX1_markReplayed 13 = .ok (.aload_n 3, 1) := by decide +kernel
theorem dX1_markReplayed_14 : decode cX1_markReplayed 14 = .ok (.ifnull 45, 3) := by decide +kernel
theorem dX1_markReplayed_17 : decode cX1_markReplayed 17 = .ok (.aload_n 3, 1) := by decide +kernel
theorem dX1_markReplayed_18 : decode cX1_markReplayed 18 = .ok (.getfield 183, 3) := by decide +kernel
theorem dX1_markReplayed_21 : decode cX1_markReplayed 21 = .ok (.iload_n 2, 1) := by decide +kernel
theorem dX1_markReplayed_22 : decode cX1_markReplayed 22 = .ok (.if_icmp .gt 37, 3) := by decide +kernel
theorem dX1_markReplayed_25 : decode cX1_markReplayed 25 = .ok (.aload_n 3, 1) := by decide +kernel
theorem dX1_markReplayed_26 : decode cX1_markReplayed 26 = .ok (.getfield 183, 3) := by decide +kernel
theorem dX1_markReplayed_29 : decode cX1_markReplayed 29 = .ok (.iload_n 1, 1) := by decide +kernel
theorem dX1_markReplayed_30 : decode cX1_markReplayed 30 = .ok (.if_icmp .le 21, 3) := by decide +kernel
theorem dX1_markReplayed_33 : decode cX1_markReplayed 33 = .ok (.aload_n 0, 1) := by decide +kernel
theorem dX1_markReplayed_34 : decode cX1_markReplayed 34 = .ok (.aload_n 3, 1) := by decide +kernel
theorem dX1_markReplayed_35 : decode cX1_markReplayed 35 = .ok (.getfield 157, 3) := by decide +kernel
theorem dX1_markReplayed_38 : decode cX1_markReplayed 38 = .ok (.iconst 1, 1) := by decide +kernel
theorem dX1_markReplayed_39 : decode cX1_markReplayed 39 = .ok (.invokevirtual 232, 3) := by decide +kernel
theorem dX1_markReplayed_42 : decode cX1_markReplayed 42 = .ok (.aload_n 0, 1) := by decide +kernel
theorem dX1_markReplayed_43 : decode cX1_markReplayed 43 = .ok (.aload_n 3, 1) := by decide +kernel
theorem dX1_markReplayed_44 : decode cX1_markReplayed 44 = .ok (.getfield 161, 3) := by decide +kernel
theorem dX1_markReplayed_47 : decode cX1_markReplayed 47 = .ok (.iconst 0, 1) := by decide +kernel
theorem dX1_markReplayed_48 : decode cX1_markReplayed 48 = .ok (.invokevirtual 232, 3) := by decide +kernel
theorem dX1_markReplayed_51 : decode cX1_markReplayed 51 = .ok (.aload_n 3, 1) := by decide +kernel
theorem dX1_markReplayed_52 : decode cX1_markReplayed 52 = .ok (.getfield 155, 3) := by decide +kernel
theorem dX1_markReplayed_55 : decode cX1_markReplayed 55 = .ok (.astore_n 3, 1) := by decide +kernel
theorem dX1_markReplayed_56 : decode cX1_markReplayed 56 = .ok (.goto (-43), 3) := by decide +kernel
theorem dX1_markReplayed_59 : decode cX1_markReplayed 59 = .ok (.return_, 1) := by decide +kernel
def J_X1_markReplayed_59 (b0 fu : Nat)   (σ : tM) : Option ((Unit) × tM) := some ((), σ)
def J_X1_markReplayed_51 (b0 fu : Nat) (rc13 : Nat → Int32 → Int32 → Option Nat → tM → Option ((Unit) × tM)) (x0 : Nat) (x1 : Int32) (x2 : Int32) (x3 : Option Nat) (σ : tM) : Option ((Unit) × tM) := omt (x3) (fun o18 => ckO b0 (σ) (o18) 7 (omt (tA (σ) (o18) 7) (fun a22 => rc13 (x0) (x1) (x2) (some (a22)) (σ)) (rc13 (x0) (x1) (x2) (none) (σ)))) (none)
def L_X1_markReplayed_13 (b0 fu : Nat)  : Nat → Nat → Int32 → Int32 → Option Nat → tM → Option ((Unit) × tM)
  | 0, _, _, _, _, _ => none
  | n + 1, x0, x1, x2, x3, σ => ltb (L_X1_markReplayed_13 b0 fu  n) (fun rc13 => omt (x3) (fun o12 => ckO b0 (σ) (o12) 7 (if (x2) < (tI (σ) (o12) 0) then J_X1_markReplayed_59 b0 fu    (σ) else if (tI (σ) (o12) 0) ≤ (x1) then J_X1_markReplayed_51 b0 fu rc13  (x0) (x1) (x2) (some (o12)) (σ) else osm (tA (σ) (o12) 4) (fun a24 => ckO b0 (σ) (x0) 1 (cll (m_X1_setMarks b0 fu (x0) (a24) (1) (σ)) (fun v28 ρ29 => ckO b0 (ρ29) (o12) 7 (osm (tA (ρ29) (o12) 6) (fun a33 => ckO b0 (ρ29) (x0) 1 (cll (m_X1_setMarks b0 fu (x0) (a33) (0) (ρ29)) (fun v37 ρ38 => J_X1_markReplayed_51 b0 fu rc13  (x0) (x1) (x2) (some (o12)) (ρ38)))))))))) (J_X1_markReplayed_59 b0 fu    (σ)))
def m_X1_markReplayed (b0 fu : Nat) (a0 : Nat) (p0 : Int32) (p1 : Int32) (σ : tM) : Option ((Unit) × tM) := grw σ (ckO b0 (σ) (a0) 1 (osm (tA (σ) (a0) 4) (fun a3 => cll (m_J7_fill_031fb b0 fu (a3) (0) (σ)) (fun v5 ρ6 => ckO b0 (ρ6) (a0) 1 (omt (tA (ρ6) (a0) 5) (fun a10 => L_X1_markReplayed_13 b0 fu  (fu) (a0) (p0) (p1) (some (a10)) (ρ6)) (L_X1_markReplayed_13 b0 fu  (fu) (a0) (p0) (p1) (none) (ρ6)))))))
set_option maxRecDepth 100000 in
set_option maxHeartbeats 1000000 in
theorem j_X1_markReplayed_59 {p : Program} {l : Launch} {e : Env} {s : State} {m : MethodId} {args : Array Value} {below : List Frame} {meth : Method} {c : Code} {D : va_G} {aC : Nat → ClassId} {b0 fu : Nat} {σ0 τ : tM} {v : Unit}  (C : tCx p l s m args meth c yX1_markReplayed.cls cX1_markReplayed 4 none D aC b0 σ0) (htab : ∀ x ∈ c.exceptionTable.toList, False) (hin : meth.name = yX1_markReplayed.name)   {σ : tM} (hm : J_X1_markReplayed_59 b0 fu   σ = some (v, τ)) : tX p l e s m args below meth c 4 1 23 D aC b0 σ0 (.inl none) τ 59 [] [] σ := by
  unfold J_X1_markReplayed_59 at hm
  obtain ⟨rfl, rfl⟩ := ret_e hm
  exact zx_vret C rfl rfl rfl dX1_markReplayed_59
set_option maxRecDepth 100000 in
set_option maxHeartbeats 1000000 in
theorem j_X1_markReplayed_51 {p : Program} {l : Launch} {e : Env} {s : State} {m : MethodId} {args : Array Value} {below : List Frame} {meth : Method} {c : Code} {D : va_G} {aC : Nat → ClassId} {b0 fu : Nat} {σ0 τ : tM} {v : Unit} {rc13 : Nat → Int32 → Int32 → Option Nat → tM → Option ((Unit) × tM)} (C : tCx p l s m args meth c yX1_markReplayed.cls cX1_markReplayed 4 none D aC b0 σ0) (htab : ∀ x ∈ c.exceptionTable.toList, False) (hin : meth.name = yX1_markReplayed.name) (hrc13 : ∀ (x0 : Nat) (x1 : Int32) (x2 : Int32) (x3 : Option Nat) (ρ : tM), rc13 x0 x1 x2 x3 ρ = some (v, τ) → tX p l e s m args below meth c 4 1 23 D aC b0 σ0 (.inl none) τ 13 [(0, .ref (x0)), (1, .int (x1)), (2, .int (x2)), (3, va_rf (x3))] [] ρ) {x0 : Nat} {x1 : Int32} {x2 : Int32} {x3 : Option Nat} {σ : tM} (hm : J_X1_markReplayed_51 b0 fu rc13 x0 x1 x2 x3 σ = some (v, τ)) : tX p l e s m args below meth c 4 1 23 D aC b0 σ0 (.inl none) τ 51 [(0, .ref (x0)), (1, .int (x1)), (2, .int (x2)), (3, va_rf (x3))] [] σ := by
  unfold J_X1_markReplayed_51 at hm
  rcases omt_e hm with ⟨o18, h19, hm⟩ | ⟨h19, hm⟩
  · refine zx_lv [0, 1, 2, 3] [(0, .ref (x0)), (1, .int (x1)), (2, .int (x2)), (3, .ref (o18))] (by rw [h19]; rfl) ?_
    refine zx_aload_n C dX1_markReplayed_51 3 rfl ?_
    obtain ⟨k20, i21, hm⟩ := ckO_e hm
    rcases omt_e hm with ⟨a22, h23, hm⟩ | ⟨h23, hm⟩
    · refine zx_get (j := 7) C tC_7 k20 i21 ⟨by decide, Or.inr ⟨_, W_4_35⟩⟩ dX1_markReplayed_52 (.ref a22) (rf_s h23) ?_
      refine zx_astore_n C [(3, .ref (a22)), (0, .ref (x0)), (1, .int (x1)), (2, .int (x2))] dX1_markReplayed_55 rfl (by decide) rfl ?_
      refine zx_goto C 13 dX1_markReplayed_56 (by decide) ?_
      exact zx_lv [1, 2, 3, 0] [(0, .ref (x0)), (1, .int (x1)), (2, .int (x2)), (3, va_rf (some (a22)))] rfl (hrc13 _ _ _ _ _ hm)
    · refine zx_get (j := 7) C tC_7 k20 i21 ⟨by decide, Or.inr ⟨_, W_4_35⟩⟩ dX1_markReplayed_52 .null (rf_n h23) ?_
      refine zx_astore_nN C [(3, .null), (0, .ref (x0)), (1, .int (x1)), (2, .int (x2))] dX1_markReplayed_55 rfl (by decide) rfl ?_
      refine zx_goto C 13 dX1_markReplayed_56 (by decide) ?_
      exact zx_lv [1, 2, 3, 0] [(0, .ref (x0)), (1, .int (x1)), (2, .int (x2)), (3, va_rf (none))] rfl (hrc13 _ _ _ _ _ hm)
  · refine zx_lv [0, 1, 2, 3] [(0, .ref (x0)), (1, .int (x1)), (2, .int (x2)), (3, .null)] (by rw [h19]; rfl) ?_
    refine zx_aload_nN C dX1_markReplayed_51 3 rfl ?_
    cases hm
set_option maxRecDepth 100000 in
set_option maxHeartbeats 1000000 in
theorem l_X1_markReplayed_13 {p : Program} {l : Launch} {e : Env} {s : State} {m : MethodId} {args : Array Value} {below : List Frame} {meth : Method} {c : Code} {D : va_G} {aC : Nat → ClassId} {b0 fu : Nat} {σ0 τ : tM} {v : Unit}  (C : tCx p l s m args meth c yX1_markReplayed.cls cX1_markReplayed 4 none D aC b0 σ0) (htab : ∀ x ∈ c.exceptionTable.toList, False) (hin : meth.name = yX1_markReplayed.name)  : ∀ (n : Nat) (x0 : Nat) (x1 : Int32) (x2 : Int32) (x3 : Option Nat) (σ : tM), L_X1_markReplayed_13 b0 fu  n x0 x1 x2 x3 σ = some (v, τ) → tX p l e s m args below meth c 4 1 23 D aC b0 σ0 (.inl none) τ 13 [(0, .ref (x0)), (1, .int (x1)), (2, .int (x2)), (3, va_rf (x3))] [] σ := by
  intro n
  induction n with
  | zero => intro x0 x1 x2 x3 σ hm; unfold L_X1_markReplayed_13 at hm; cases hm
  | succ n ih =>
    intro x0 x1 x2 x3 σ hm
    unfold L_X1_markReplayed_13 at hm
    obtain ⟨rc13, hrc⟩ : ∃ z, z = L_X1_markReplayed_13 b0 fu  n := ⟨_, rfl⟩
    replace hm := ltb_e hm hrc
    rw [← hrc] at ih
    have hrc13 := ih
    clear ih hrc
    rcases omt_e hm with ⟨o12, h13, hm⟩ | ⟨h13, hm⟩
    · refine zx_lv [0, 1, 2, 3] [(0, .ref (x0)), (1, .int (x1)), (2, .int (x2)), (3, .ref (o12))] (by rw [h13]; rfl) ?_
      refine zx_aload_n C dX1_markReplayed_13 3 rfl ?_
      refine zx_ifnull C dX1_markReplayed_14 ?_
      refine zx_aload_n C dX1_markReplayed_17 3 rfl ?_
      obtain ⟨k14, i15, hm⟩ := ckO_e hm
      refine zx_get (j := 0) C tC_7 k14 i15 ⟨by decide, Or.inr ⟨_, W_4_22⟩⟩ dX1_markReplayed_18 (.int (tI (σ) (o12) 0)) rfl ?_
      refine zx_iload_n C dX1_markReplayed_21 2 rfl ?_
      refine zx_icmp_gt C 59 dX1_markReplayed_22 (by decide) (fun c16 => ?_) (fun c16 => ?_)
      · replace hm := ip_e hm c16
        exact zx_lv [] [] rfl (j_X1_markReplayed_59 C htab hin    hm)
      · replace hm := in_e hm c16
        refine zx_aload_n C dX1_markReplayed_25 3 rfl ?_
        refine zx_get (j := 0) C tC_7 k14 i15 ⟨by decide, Or.inr ⟨_, W_4_22⟩⟩ dX1_markReplayed_26 (.int (tI (σ) (o12) 0)) rfl ?_
        refine zx_iload_n C dX1_markReplayed_29 1 rfl ?_
        refine zx_icmp_le C 51 dX1_markReplayed_30 (by decide) (fun c17 => ?_) (fun c17 => ?_)
        · replace hm := ip_e hm c17
          exact zx_lv [0, 1, 2, 3] [(0, .ref (x0)), (1, .int (x1)), (2, .int (x2)), (3, va_rf (some (o12)))] rfl (j_X1_markReplayed_51 C htab hin hrc13   hm)
        · replace hm := in_e hm c17
          refine zx_aload_n C dX1_markReplayed_33 0 rfl ?_
          refine zx_aload_n C dX1_markReplayed_34 3 rfl ?_
          obtain ⟨a24, h25, hm⟩ := osm_e hm
          refine zx_get (j := 4) C tC_7 k14 i15 ⟨by decide, Or.inr ⟨_, W_4_30⟩⟩ dX1_markReplayed_35 (.ref a24) (rf_s h25) ?_
          refine zx_iconst (v := 1) C dX1_markReplayed_38 (by decide) ?_
          obtain ⟨k26, i27, hm⟩ := ckO_e hm
          obtain ⟨v28, ρ29, h30, hm⟩ := cll_e hm
          refine zx_callV (σ := σ) C [.ref (a24), .int (1)] tC_1 k26 i27 Y_X1_setMarks W_6_142 W_6_144 Wp_49 (c_X1_setMarks h30) (by decide) (by decide) rfl (Nat.le_of_ble_eq_true rfl) dX1_markReplayed_39 rfl ?_
          refine zx_aload_n C dX1_markReplayed_42 0 rfl ?_
          refine zx_aload_n C dX1_markReplayed_43 3 rfl ?_
          obtain ⟨k31, i32, hm⟩ := ckO_e hm
          obtain ⟨a33, h34, hm⟩ := osm_e hm
          refine zx_get (j := 6) C tC_7 k31 i32 ⟨by decide, Or.inr ⟨_, W_4_34⟩⟩ dX1_markReplayed_44 (.ref a33) (rf_s h34) ?_
          refine zx_iconst (v := 0) C dX1_markReplayed_47 (by decide) ?_
          obtain ⟨k35, i36, hm⟩ := ckO_e hm
          obtain ⟨v37, ρ38, h39, hm⟩ := cll_e hm
          refine zx_callV (σ := ρ29) C [.ref (a33), .int (0)] tC_1 k35 i36 Y_X1_setMarks W_6_142 W_6_144 Wp_49 (c_X1_setMarks h39) (by decide) (by decide) rfl (Nat.le_of_ble_eq_true rfl) dX1_markReplayed_48 rfl ?_
          exact zx_lv [0, 1, 2, 3] [(0, .ref (x0)), (1, .int (x1)), (2, .int (x2)), (3, va_rf (some (o12)))] rfl (j_X1_markReplayed_51 C htab hin hrc13   hm)
    · refine zx_lv [0, 1, 2, 3] [(0, .ref (x0)), (1, .int (x1)), (2, .int (x2)), (3, .null)] (by rw [h13]; rfl) ?_
      refine zx_aload_nN C dX1_markReplayed_13 3 rfl ?_
      refine zx_ifnullN C 59 dX1_markReplayed_14 (by decide) ?_
      exact zx_lv [] [] rfl (j_X1_markReplayed_59 C htab hin    hm)
set_option maxRecDepth 100000 in
set_option maxHeartbeats 1000000 in
theorem c_X1_markReplayed {l : Launch} {D : va_G} {aC : Nat → ClassId} {b0 fu : Nat} {a0 : Nat} {p0 : Int32} {p1 : Int32} {σ τ : tM} {v : Unit} (hm : m_X1_markReplayed b0 fu a0 p0 p1 σ = some (v, τ)) : tMt l D aC b0 yX1_markReplayed (Cond.code yX1_markReplayed cX1_markReplayed 4 none) 1 23 [.ref (a0), .int (p0), .int (p1)] σ (.inl none) τ := by
  unfold m_X1_markReplayed at hm
  obtain ⟨hg, hm⟩ := grw_e hm
  refine tMt_of (n := 0) rfl (Nat.le_of_ble_eq_true rfl) hg ?_
  intro p e s m below meth c C htab hin
  refine zx_lv [0, 1, 2] [(0, .ref (a0)), (1, .int (p0)), (2, .int (p1))] rfl ?_
  refine zx_aload_n C dX1_markReplayed_0 0 rfl ?_
  obtain ⟨k1, i2, hm⟩ := ckO_e hm
  obtain ⟨a3, h4, hm⟩ := osm_e hm
  refine zx_get (j := 4) C tC_1 k1 i2 ⟨by decide, Or.inl W_1_184⟩ dX1_markReplayed_1 (.ref a3) (rf_s h4) ?_
  refine zx_iconst (v := 0) C dX1_markReplayed_4 (by decide) ?_
  obtain ⟨v5, ρ6, h7, hm⟩ := cll_e hm
  refine zx_callS (σ := σ) C [.ref (a3), .int (0)] Y_J7_fill_031fb W_6_141 W_2_178 (c_J7_fill_031fb h7) (by decide) (by decide) rfl (Nat.le_of_ble_eq_true rfl) dX1_markReplayed_5 rfl ?_
  refine zx_aload_n C dX1_markReplayed_8 0 rfl ?_
  obtain ⟨k8, i9, hm⟩ := ckO_e hm
  rcases omt_e hm with ⟨a10, h11, hm⟩ | ⟨h11, hm⟩
  · refine zx_get (j := 5) C tC_1 k8 i9 ⟨by decide, Or.inl W_1_185⟩ dX1_markReplayed_9 (.ref a10) (rf_s h11) ?_
    refine zx_astore_n C [(3, .ref (a10)), (0, .ref (a0)), (1, .int (p0)), (2, .int (p1))] dX1_markReplayed_12 rfl (by decide) rfl ?_
    exact zx_lv [1, 2, 3, 0] [(0, .ref (a0)), (1, .int (p0)), (2, .int (p1)), (3, va_rf (some (a10)))] rfl (l_X1_markReplayed_13 C htab hin  _ _ _ _ _ _ hm)
  · refine zx_get (j := 5) C tC_1 k8 i9 ⟨by decide, Or.inl W_1_185⟩ dX1_markReplayed_9 .null (rf_n h11) ?_
    refine zx_astore_nN C [(3, .null), (0, .ref (a0)), (1, .int (p0)), (2, .int (p1))] dX1_markReplayed_12 rfl (by decide) rfl ?_
    exact zx_lv [1, 2, 3, 0] [(0, .ref (a0)), (1, .int (p0)), (2, .int (p1)), (3, va_rf (none))] rfl (l_X1_markReplayed_13 C htab hin  _ _ _ _ _ _ hm)
abbrev cX2_loadMeta : ByteArray := prog_4_method_6_code
def yX2_loadMeta : MethodName := ⟨"SyncTree$Loader", "loadMeta", "(IJ)V"⟩
theorem Y_X2_loadMeta : tY yX2_loadMeta cX2_loadMeta 5 none 2 := ⟨W_6_169, W_1_6, ⟨by decide +kernel, by decide +kernel⟩, by decide +kernel⟩
theorem dX2_loadMeta_0 : decode cX2_loadMeta 0 = .ok (.lload_n 2, 1) := by decide +kernel
theorem dX2_loadMeta_1 : decode cX2_loadMeta 1 = .ok (.invokestatic 66, 3) := by decide +kernel
theorem dX2_loadMeta_4 : decode cX2_loadMeta 4 = .ok (.istore 4, 2) := by decide +kernel
theorem dX2_loadMeta_6 : decode cX2_loadMeta 6 = .ok (.aload_n 0, 1) := by decide +kernel
theorem dX2_loadMeta_7 : decode cX2_loadMeta 7 = .ok (.getfield 15, 3) := by decide +kernel
theorem dX2_loadMeta_10 : decode cX2_loadMeta 10 = .ok (.iload 4, 2) := by decide +kernel
theorem dX2_loadMeta_12 : decode cX2_loadMeta 12 = .ok (.lload_n 2, 1) := by decide +kernel
theorem dX2_loadMeta_13 : decode cX2_loadMeta 13 = .ok (.invokestatic 73, 3) := by decide +kernel
theorem dX2_loadMeta_16 : decode cX2_loadMeta 16 = .ok (.iload_n 1, 1) := by decide +kernel
theorem dX2_loadMeta_17 : decode cX2_loadMeta 17 = .ok (.invokevirtual 76, 3) := by decide +kernel
theorem dX2_loadMeta_20 : decode cX2_loadMeta 20 = .ok (.aload_n 0, 1) := by decide +kernel
theorem dX2_loadMeta_21 : decode cX2_loadMeta 21 = .ok (.getfield 15, 3) := by decide +kernel
theorem dX2_loadMeta_24 : decode cX2_loadMeta 24 = .ok (.iload 4, 2) := by decide +kernel
theorem dX2_loadMeta_26 : decode cX2_loadMeta 26 = .ok (.aload_n 0, 1) := by decide +kernel
theorem dX2_loadMeta_27 : decode cX2_loadMeta 27 = .ok (.getfield 23, 3) := by decide +kernel
theorem dX2_loadMeta_30 : decode cX2_loadMeta 30 = .ok (.iload 4, 2) := by decide +kernel
theorem dX2_loadMeta_32 : decode cX2_loadMeta 32 = .ok (.invokevirtual 27, 3) := by decide +kernel
theorem dX2_loadMeta_35 : decode cX2_loadMeta 35 = .ok (.invokevirtual 33, 3) := by decide +kernel
theorem dX2_loadMeta_38 : decode cX2_loadMeta 38 = .ok (.return_, 1) := by decide +kernel
def m_X2_loadMeta (b0 fu : Nat) (a0 : Nat) (p0 : Int32) (p1 : Int64) (σ : tM) : Option ((Unit) × tM) := grw σ (cll (m_X8_cellOf b0 fu (p1) (σ)) (fun v1 ρ2 => ckO b0 (ρ2) (a0) 2 (osm (tA (ρ2) (a0) 1) (fun a6 => cll (m_X8_birthOf b0 fu (p1) (ρ2)) (fun v8 ρ9 => ckO b0 (ρ9) (a6) 5 (cll (m_X5_adopt b0 fu (a6) (v1) (v8) (p0) (ρ9)) (fun v13 ρ14 => ckO b0 (ρ14) (a0) 2 (osm (tA (ρ14) (a0) 1) (fun a18 => osm (tA (ρ14) (a0) 3) (fun a20 => ckO b0 (ρ14) (a20) 1 (cll (m_X1_baseOf b0 fu (a20) (v1) (ρ14)) (fun v24 ρ25 => omt v24 (fun a27 => ckO b0 (ρ25) (a18) 5 (cll (m_X5_load b0 fu (a18) (v1) (some (a27)) (ρ25)) (fun v31 ρ32 => some ((), ρ32)))) (ckO b0 (ρ25) (a18) 5 (cll (m_X5_load b0 fu (a18) (v1) (none) (ρ25)) (fun v36 ρ37 => some ((), ρ37))))))))))))))))
set_option maxRecDepth 100000 in
set_option maxHeartbeats 1000000 in
theorem c_X2_loadMeta {l : Launch} {D : va_G} {aC : Nat → ClassId} {b0 fu : Nat} {a0 : Nat} {p0 : Int32} {p1 : Int64} {σ τ : tM} {v : Unit} (hm : m_X2_loadMeta b0 fu a0 p0 p1 σ = some (v, τ)) : tMt l D aC b0 yX2_loadMeta (Cond.code yX2_loadMeta cX2_loadMeta 5 none) 2 49 [.ref (a0), .int (p0), .long (p1)] σ (.inl none) τ := by
  unfold m_X2_loadMeta at hm
  obtain ⟨hg, hm⟩ := grw_e hm
  refine tMt_of (n := 0) rfl (Nat.le_of_ble_eq_true rfl) hg ?_
  intro p e s m below meth c C htab hin
  refine zx_lv [0, 1, 2] [(0, .ref (a0)), (1, .int (p0)), (2, .long (p1))] rfl ?_
  refine zx_lload_n C dX2_loadMeta_0 2 rfl ?_
  obtain ⟨v1, ρ2, h3, hm⟩ := cll_e hm
  refine zx_callS (σ := σ) C [.long (p1)] Y_X8_cellOf W_6_170 W_4_118 (c_X8_cellOf h3) (by decide) (by decide) rfl (Nat.le_of_ble_eq_true rfl) dX2_loadMeta_1 rfl ?_
  refine zx_istore C [(4, .int (v1)), (0, .ref (a0)), (1, .int (p0)), (2, .long (p1))] dX2_loadMeta_4 (by decide) rfl ?_
  refine zx_aload_n C dX2_loadMeta_6 1 rfl ?_
  obtain ⟨k4, i5, hm⟩ := ckO_e hm
  obtain ⟨a6, h7, hm⟩ := osm_e hm
  refine zx_get (j := 1) C tC_2 k4 i5 ⟨by decide, Or.inl W_2_2⟩ dX2_loadMeta_7 (.ref a6) (rf_s h7) ?_
  refine zx_iload C dX2_loadMeta_10 0 rfl ?_
  refine zx_lload_n C dX2_loadMeta_12 3 rfl ?_
  obtain ⟨v8, ρ9, h10, hm⟩ := cll_e hm
  refine zx_callS (σ := ρ2) C [.long (p1)] Y_X8_birthOf W_6_171 W_6_172 (c_X8_birthOf h10) (by decide) (by decide) rfl (Nat.le_of_ble_eq_true rfl) dX2_loadMeta_13 rfl ?_
  refine zx_iload_n C dX2_loadMeta_16 2 rfl ?_
  obtain ⟨k11, i12, hm⟩ := ckO_e hm
  obtain ⟨v13, ρ14, h15, hm⟩ := cll_e hm
  refine zx_callV (σ := ρ9) C [.int (v1), .int (v8), .int (p0)] tC_5 k11 i12 Y_X5_adopt W_6_174 W_4_208 W_4_209 (c_X5_adopt h15) (by decide) (by decide) rfl (Nat.le_of_ble_eq_true rfl) dX2_loadMeta_17 rfl ?_
  refine zx_aload_n C dX2_loadMeta_20 1 rfl ?_
  obtain ⟨k16, i17, hm⟩ := ckO_e hm
  obtain ⟨a18, h19, hm⟩ := osm_e hm
  refine zx_get (j := 1) C tC_2 k16 i17 ⟨by decide, Or.inl W_2_2⟩ dX2_loadMeta_21 (.ref a18) (rf_s h19) ?_
  refine zx_iload C dX2_loadMeta_24 0 rfl ?_
  refine zx_aload_n C dX2_loadMeta_26 1 rfl ?_
  obtain ⟨a20, h21, hm⟩ := osm_e hm
  refine zx_get (j := 3) C tC_2 k16 i17 ⟨by decide, Or.inl W_2_4⟩ dX2_loadMeta_27 (.ref a20) (rf_s h21) ?_
  refine zx_iload C dX2_loadMeta_30 0 rfl ?_
  obtain ⟨k22, i23, hm⟩ := ckO_e hm
  obtain ⟨v24, ρ25, h26, hm⟩ := cll_e hm
  rcases omt_e hm with ⟨a27, h28, hm⟩ | ⟨h28, hm⟩
  · subst h28
    refine zx_callV (σ := ρ14) C [.int (v1)] tC_1 k22 i23 Y_X1_baseOf W_6_150 W_6_151 W_6_152 (c_X1_baseOf h26) (by decide) (by decide) rfl (Nat.le_of_ble_eq_true rfl) dX2_loadMeta_32 rfl ?_
    obtain ⟨k29, i30, hm⟩ := ckO_e hm
    obtain ⟨v31, ρ32, h33, hm⟩ := cll_e hm
    refine zx_callV (σ := ρ25) C [.int (v1), va_rf (some (a27))] tC_5 k29 i30 Y_X5_load W_6_154 W_2_130 W_2_131 (c_X5_load h33) (by decide) (by decide) rfl (Nat.le_of_ble_eq_true rfl) dX2_loadMeta_35 rfl ?_
    obtain ⟨rfl, rfl⟩ := ret_e hm
    exact zx_vret C rfl rfl rfl dX2_loadMeta_38
  · subst h28
    refine zx_callV (σ := ρ14) C [.int (v1)] tC_1 k22 i23 Y_X1_baseOf W_6_150 W_6_151 W_6_152 (c_X1_baseOf h26) (by decide) (by decide) rfl (Nat.le_of_ble_eq_true rfl) dX2_loadMeta_32 rfl ?_
    obtain ⟨k34, i35, hm⟩ := ckO_e hm
    obtain ⟨v36, ρ37, h38, hm⟩ := cll_e hm
    refine zx_callV (σ := ρ25) C [.int (v1), va_rf (none)] tC_5 k34 i35 Y_X5_load W_6_154 W_2_130 W_2_131 (c_X5_load h38) (by decide) (by decide) rfl (Nat.le_of_ble_eq_true rfl) dX2_loadMeta_35 rfl ?_
    obtain ⟨rfl, rfl⟩ := ret_e hm
    exact zx_vret C rfl rfl rfl dX2_loadMeta_38
abbrev cX3_take : ByteArray := prog_5_method_3_code
def yX3_take : MethodName := ⟨"SyncTree$PathText", "take", "(LSyncTree$Tape;I)V"⟩
theorem Y_X3_take : tY yX3_take cX3_take 4 none 2 := ⟨W_3_31, W_1_9, ⟨by decide +kernel, by decide +kernel⟩, by decide +kernel⟩
theorem dX3_take_0 : decode cX3_take 0 = .ok (.aload_n 0, 1) := by decide +kernel
theorem dX3_take_1 : decode cX3_take 1 = .ok (.iconst 0, 1) := by decide +kernel
theorem dX3_take_2 : decode cX3_take 2 = .ok (.iload_n 2, 1) := by decide +kernel
theorem dX3_take_3 : decode cX3_take 3 = .ok (.bipush 120, 2) := by decide +kernel
theorem dX3_take_5 : decode cX3_take 5 = .ok (.invokestatic 25, 3) := by decide +kernel
theorem dX3_take_8 : decode cX3_take 8 = .ok (.invokestatic 31, 3) := by decide +kernel
theorem dX3_take_11 : decode cX3_take 11 = .ok (.putfield 15, 3) := by decide +kernel
theorem dX3_take_14 : decode cX3_take 14 = .ok (.iconst 0, 1) := by decide +kernel
theorem dX3_take_15 : decode cX3_take 15 = .ok (.istore_n 3, 1) := by decide +kernel
theorem dX3_take_16 : decode cX3_take 16 = .ok (.iload_n 3, 1) := by decide +kernel
theorem dX3_take_17 : decode cX3_take 17 = .ok (.aload_n 0, 1) := by decide +kernel
theorem dX3_take_18 : decode cX3_take 18 = .ok (.getfield 15, 3) := by decide +kernel
theorem dX3_take_21 : decode cX3_take 21 = .ok (.if_icmp .ge 20, 3) := by decide +kernel
theorem dX3_take_24 : decode cX3_take 24 = .ok (.aload_n 0, 1) := by decide +kernel
theorem dX3_take_25 : decode cX3_take 25 = .ok (.getfield 9, 3) := by decide +kernel
theorem dX3_take_28 : decode cX3_take 28 = .ok (.iload_n 3, 1) := by decide +kernel
theorem dX3_take_29 : decode cX3_take 29 = .ok (.aload_n 1, 1) := by decide +kernel
theorem dX3_take_30 : decode cX3_take 30 = .ok (.iload_n 3, 1) := by decide +kernel
theorem dX3_take_31 : decode cX3_take 31 = .ok (.invokevirtual 34, 3) := by decide +kernel
theorem dX3_take_34 : decode cX3_take 34 = .ok (.bastore, 1) := by decide +kernel
theorem dX3_take_35 : decode cX3_take 35 = .ok (.iinc 3 1, 3) := by decide +kernel
theorem dX3_take_38 : decode cX3_take 38 = .ok (.goto (-22), 3) := by decide +kernel
theorem dX3_take_41 : decode cX3_take 41 = .ok (.aload_n 0, 1) := by decide +kernel
theorem dX3_take_42 : decode cX3_take 42 = .ok (.getfield 15, 3) := by decide +kernel
theorem dX3_take_45 : decode cX3_take 45 = .ok (.istore_n 3, 1) := by decide +kernel
theorem dX3_take_46 : decode cX3_take 46 = .ok (.iload_n 3, 1) := by decide +kernel
theorem dX3_take_47 : decode cX3_take 47 = .ok (.ifCond .le 22, 3) := by decide +kernel
theorem dX3_take_50 : decode cX3_take 50 = .ok (.aload_n 0, 1) := by decide +kernel
theorem dX3_take_51 : decode cX3_take 51 = .ok (.getfield 9, 3) := by decide +kernel
theorem dX3_take_54 : decode cX3_take 54 = .ok (.iload_n 3, 1) := by decide +kernel
theorem dX3_take_55 : decode cX3_take 55 = .ok (.iconst 1, 1) := by decide +kernel
theorem dX3_take_56 : decode cX3_take 56 = .ok (.isub, 1) := by decide +kernel
theorem dX3_take_57 : decode cX3_take 57 = .ok (.baload, 1) := by decide +kernel
theorem dX3_take_58 : decode cX3_take 58 = .ok (.bipush 47, 2) := by decide +kernel
theorem dX3_take_60 : decode cX3_take 60 = .ok (.if_icmp .ne 9, 3) := by decide +kernel
theorem dX3_take_63 : decode cX3_take 63 = .ok (.iinc 3 (-1), 3) := by decide +kernel
theorem dX3_take_66 : decode cX3_take 66 = .ok (.goto (-20), 3) := by decide +kernel
theorem dX3_take_69 : decode cX3_take 69 = .ok (.aload_n 0, 1) := by decide +kernel
theorem dX3_take_70 : decode cX3_take 70 = .ok (.iload_n 3, 1) := by decide +kernel
theorem dX3_take_71 : decode cX3_take 71 = .ok (.putfield 19, 3) := by decide +kernel
theorem dX3_take_74 : decode cX3_take 74 = .ok (.aload_n 0, 1) := by decide +kernel
theorem dX3_take_75 : decode cX3_take 75 = .ok (.getfield 19, 3) := by decide +kernel
theorem dX3_take_78 : decode cX3_take 78 = .ok (.ifCond .le 32, 3) := by decide +kernel
theorem dX3_take_81 : decode cX3_take 81 = .ok (.aload_n 0, 1) := by decide +kernel
theorem dX3_take_82 : decode cX3_take 82 = .ok (.getfield 9, 3) := by decide +kernel
theorem dX3_take_85 : decode cX3_take 85 = .ok (.aload_n 0, 1) := by decide +kernel
theorem dX3_take_86 : decode cX3_take 86 = .ok (.getfield 19, 3) := by decide +kernel
theorem dX3_take_89 : decode cX3_take 89 = .ok (.iconst 1, 1) := by decide +kernel
theorem dX3_take_90 : decode cX3_take 90 = .ok (.isub, 1) := by decide +kernel
theorem dX3_take_91 : decode cX3_take 91 = .ok (.baload, 1) := by decide +kernel
theorem dX3_take_92 : decode cX3_take 92 = .ok (.bipush 47, 2) := by decide +kernel
theorem dX3_take_94 : decode cX3_take 94 = .ok (.if_icmp .eq 16, 3) := by decide +kernel
theorem dX3_take_97 : decode cX3_take 97 = .ok (.aload_n 0, 1) := by decide +kernel
theorem dX3_take_98 : decode cX3_take 98 = .ok (.dup, 1) := by decide +kernel
theorem dX3_take_99 : decode cX3_take 99 = .ok (.getfield 19, 3) := by decide +kernel
theorem dX3_take_102 : decode cX3_take 102 = .ok (.iconst 1, 1) := by decide +kernel
theorem dX3_take_103 : decode cX3_take 103 = .ok (.isub, 1) := by decide +kernel
theorem dX3_take_104 : decode cX3_take 104 = .ok (.putfield 19, 3) := by decide +kernel
theorem dX3_take_107 : decode cX3_take 107 = .ok (.goto (-33), 3) := by decide +kernel
theorem dX3_take_110 : decode cX3_take 110 = .ok (.aload_n 0, 1) := by decide +kernel
theorem dX3_take_111 : decode cX3_take 111 = .ok (.iload_n 3, 1) := by decide +kernel
theorem dX3_take_112 : decode cX3_take 112 = .ok (.aload_n 0, 1) := by decide +kernel
theorem dX3_take_113 : decode cX3_take 113 = .ok (.getfield 19, 3) := by decide +kernel
theorem dX3_take_116 : decode cX3_take 116 = .ok (.isub, 1) := by decide +kernel
theorem dX3_take_117 : decode cX3_take 117 = .ok (.putfield 22, 3) := by decide +kernel
theorem dX3_take_120 : decode cX3_take 120 = .ok (.return_, 1) := by decide +kernel
def J_X3_take_110 (b0 fu : Nat)  (x0 : Nat) (x3 : Int32) (σ : tM) : Option ((Unit) × tM) := ckO b0 (σ) (x0) 3 (some ((), sI (σ) (x0) 3 ((x3) - (tI (σ) (x0) 2))))
def L_X3_take_74 (b0 fu : Nat)  : Nat → Nat → Int32 → tM → Option ((Unit) × tM)
  | 0, _, _, _ => none
  | n + 1, x0, x3, σ => ltb (L_X3_take_74 b0 fu  n) (fun rc74 => ckO b0 (σ) (x0) 3 (if (tI (σ) (x0) 2) ≤ (0) then J_X3_take_110 b0 fu   (x0) (x3) (σ) else osm (tA (σ) (x0) 0) (fun a15 => ckR b0 (σ) (a15) 1 (fun n19 => ckI ((tI (σ) (x0) 2) - (1)) (n19) (if (tI (σ) (a15) (((tI (σ) (x0) 2) - (1)).toNatClampNeg)) = (47) then J_X3_take_110 b0 fu   (x0) (x3) (σ) else rc74 (x0) (x3) (sI (σ) (x0) 2 ((tI (σ) (x0) 2) - (1))))))))
def J_X3_take_69 (b0 fu : Nat)  (x0 : Nat) (x3 : Int32) (σ : tM) : Option ((Unit) × tM) := ckO b0 (σ) (x0) 3 (L_X3_take_74 b0 fu  (fu) (x0) (x3) (sI (σ) (x0) 2 (x3)))
def L_X3_take_46 (b0 fu : Nat)  : Nat → Nat → Int32 → tM → Option ((Unit) × tM)
  | 0, _, _, _ => none
  | n + 1, x0, x3, σ => ltb (L_X3_take_46 b0 fu  n) (fun rc46 => if (x3) ≤ (0) then J_X3_take_69 b0 fu   (x0) (x3) (σ) else ckO b0 (σ) (x0) 3 (osm (tA (σ) (x0) 0) (fun a24 => ckR b0 (σ) (a24) 1 (fun n28 => ckI ((x3) - (1)) (n28) (if (tI (σ) (a24) (((x3) - (1)).toNatClampNeg)) = (47) then ltb ((x3) + Int32.ofInt (-1)) (fun y31 => rc46 (x0) (y31) (σ)) else J_X3_take_69 b0 fu   (x0) (x3) (σ))))))
def L_X3_take_16 (b0 fu : Nat)  : Nat → Nat → Nat → Int32 → tM → Option ((Unit) × tM)
  | 0, _, _, _, _ => none
  | n + 1, x0, x1, x3, σ => ltb (L_X3_take_16 b0 fu  n) (fun rc16 => ckO b0 (σ) (x0) 3 (if (tI (σ) (x0) 1) ≤ (x3) then ltb ((tI (σ) (x0) 1 : Int32)) (fun y6 => L_X3_take_46 b0 fu  (fu) (x0) (y6) (σ)) else osm (tA (σ) (x0) 0) (fun a32 => ckO b0 (σ) (x1) 6 (cll (m_X6_octet b0 fu (x1) (x3) (σ)) (fun v36 ρ37 => ckR b0 (ρ37) (a32) 1 (fun n41 => ckI (x3) (n41) (ltb ((x3) + Int32.ofInt 1) (fun y43 => rc16 (x0) (x1) (y43) (sI (ρ37) (a32) ((x3).toNatClampNeg) (vp_nar .byte (v36)))))))))))
def m_X3_take (b0 fu : Nat) (a0 : Nat) (p0 : Nat) (p1 : Int32) (σ : tM) : Option ((Unit) × tM) := grw σ (ckO b0 (σ) (a0) 3 (L_X3_take_16 b0 fu  (fu) (a0) (p0) (0) (sI (σ) (a0) 1 ((if ((0 : Int32)) < ((if ((120 : Int32)) < (p1) then (120) else (p1) : Int32)) then ((if ((120 : Int32)) < (p1) then (120) else (p1) : Int32)) else (0) : Int32)))))
set_option maxRecDepth 100000 in
set_option maxHeartbeats 1000000 in
theorem j_X3_take_110 {p : Program} {l : Launch} {e : Env} {s : State} {m : MethodId} {args : Array Value} {below : List Frame} {meth : Method} {c : Code} {D : va_G} {aC : Nat → ClassId} {b0 fu : Nat} {σ0 τ : tM} {v : Unit}  (C : tCx p l s m args meth c yX3_take.cls cX3_take 4 none D aC b0 σ0) (htab : ∀ x ∈ c.exceptionTable.toList, False) (hin : meth.name = yX3_take.name)  {x0 : Nat} {x3 : Int32} {σ : tM} (hm : J_X3_take_110 b0 fu  x0 x3 σ = some (v, τ)) : tX p l e s m args below meth c 4 1 21 D aC b0 σ0 (.inl none) τ 110 [(0, .ref (x0)), (3, .int (x3))] [] σ := by
  unfold J_X3_take_110 at hm
  refine zx_aload_n C dX3_take_110 0 rfl ?_
  refine zx_iload_n C dX3_take_111 1 rfl ?_
  refine zx_aload_n C dX3_take_112 0 rfl ?_
  obtain ⟨k13, i14, hm⟩ := ckO_e hm
  refine zx_get (j := 2) C tC_3 k13 i14 ⟨by decide, Or.inl W_2_63⟩ dX3_take_113 (.int (tI (σ) (x0) 2)) rfl ?_
  refine zx_isub C dX3_take_116 ?_
  refine zx_put (j := 3) (ρ := sI (σ) (x0) 3 ((x3) - (tI (σ) (x0) 2))) C tC_3 k13 i14 ⟨by decide, Or.inl W_2_66⟩ rfl rfl rfl (sI_ok (fun _ => rfl)) dX3_take_117 ?_
  obtain ⟨rfl, rfl⟩ := ret_e hm
  exact zx_vret C rfl rfl rfl dX3_take_120
set_option maxRecDepth 100000 in
set_option maxHeartbeats 1000000 in
theorem l_X3_take_74 {p : Program} {l : Launch} {e : Env} {s : State} {m : MethodId} {args : Array Value} {below : List Frame} {meth : Method} {c : Code} {D : va_G} {aC : Nat → ClassId} {b0 fu : Nat} {σ0 τ : tM} {v : Unit}  (C : tCx p l s m args meth c yX3_take.cls cX3_take 4 none D aC b0 σ0) (htab : ∀ x ∈ c.exceptionTable.toList, False) (hin : meth.name = yX3_take.name)  : ∀ (n : Nat) (x0 : Nat) (x3 : Int32) (σ : tM), L_X3_take_74 b0 fu  n x0 x3 σ = some (v, τ) → tX p l e s m args below meth c 4 1 21 D aC b0 σ0 (.inl none) τ 74 [(0, .ref (x0)), (3, .int (x3))] [] σ := by
  intro n
  induction n with
  | zero => intro x0 x3 σ hm; unfold L_X3_take_74 at hm; cases hm
  | succ n ih =>
    intro x0 x3 σ hm
    unfold L_X3_take_74 at hm
    obtain ⟨rc74, hrc⟩ : ∃ z, z = L_X3_take_74 b0 fu  n := ⟨_, rfl⟩
    replace hm := ltb_e hm hrc
    rw [← hrc] at ih
    have hrc74 := ih
    clear ih hrc
    refine zx_aload_n C dX3_take_74 0 rfl ?_
    obtain ⟨k10, i11, hm⟩ := ckO_e hm
    refine zx_get (j := 2) C tC_3 k10 i11 ⟨by decide, Or.inl W_2_63⟩ dX3_take_75 (.int (tI (σ) (x0) 2)) rfl ?_
    refine zx_if_le C 110 dX3_take_78 (by decide) (fun c12 => ?_) (fun c12 => ?_)
    · replace hm := ip_e hm c12
      exact zx_lv [0, 1] [(0, .ref (x0)), (3, .int (x3))] rfl (j_X3_take_110 C htab hin    hm)
    · replace hm := in_e hm c12
      refine zx_aload_n C dX3_take_81 0 rfl ?_
      obtain ⟨a15, h16, hm⟩ := osm_e hm
      refine zx_get (j := 0) C tC_3 k10 i11 ⟨by decide, Or.inl W_2_56⟩ dX3_take_82 (.ref a15) (rf_s h16) ?_
      refine zx_aload_n C dX3_take_85 0 rfl ?_
      refine zx_get (j := 2) C tC_3 k10 i11 ⟨by decide, Or.inl W_2_63⟩ dX3_take_86 (.int (tI (σ) (x0) 2)) rfl ?_
      refine zx_iconst (v := 1) C dX3_take_89 (by decide) ?_
      refine zx_isub C dX3_take_90 ?_
      obtain ⟨n19, k17, i18, hm⟩ := ckR_e hm
      obtain ⟨h20, hm⟩ := ckI_e hm
      refine zx_bald C k17 i18 h20 dX3_take_91 ?_
      refine zx_bipush (v := 47) C dX3_take_92 (by decide) ?_
      refine zx_icmp_eq C 110 dX3_take_94 (by decide) (fun c21 => ?_) (fun c21 => ?_)
      · replace hm := ip_e hm c21
        exact zx_lv [0, 1] [(0, .ref (x0)), (3, .int (x3))] rfl (j_X3_take_110 C htab hin    hm)
      · replace hm := in_e hm c21
        refine zx_aload_n C dX3_take_97 0 rfl ?_
        refine zx_dup C dX3_take_98 rfl ?_
        refine zx_get (j := 2) C tC_3 k10 i11 ⟨by decide, Or.inl W_2_63⟩ dX3_take_99 (.int (tI (σ) (x0) 2)) rfl ?_
        refine zx_iconst (v := 1) C dX3_take_102 (by decide) ?_
        refine zx_isub C dX3_take_103 ?_
        refine zx_put (j := 2) (ρ := sI (σ) (x0) 2 ((tI (σ) (x0) 2) - (1))) C tC_3 k10 i11 ⟨by decide, Or.inl W_2_63⟩ rfl rfl rfl (sI_ok (fun _ => rfl)) dX3_take_104 ?_
        refine zx_goto C 74 dX3_take_107 (by decide) ?_
        exact zx_lv [0, 1] [(0, .ref (x0)), (3, .int (x3))] rfl (hrc74 _ _ _ hm)
set_option maxRecDepth 100000 in
set_option maxHeartbeats 1000000 in
theorem j_X3_take_69 {p : Program} {l : Launch} {e : Env} {s : State} {m : MethodId} {args : Array Value} {below : List Frame} {meth : Method} {c : Code} {D : va_G} {aC : Nat → ClassId} {b0 fu : Nat} {σ0 τ : tM} {v : Unit}  (C : tCx p l s m args meth c yX3_take.cls cX3_take 4 none D aC b0 σ0) (htab : ∀ x ∈ c.exceptionTable.toList, False) (hin : meth.name = yX3_take.name)  {x0 : Nat} {x3 : Int32} {σ : tM} (hm : J_X3_take_69 b0 fu  x0 x3 σ = some (v, τ)) : tX p l e s m args below meth c 4 1 21 D aC b0 σ0 (.inl none) τ 69 [(0, .ref (x0)), (3, .int (x3))] [] σ := by
  unfold J_X3_take_69 at hm
  refine zx_aload_n C dX3_take_69 0 rfl ?_
  refine zx_iload_n C dX3_take_70 1 rfl ?_
  obtain ⟨k8, i9, hm⟩ := ckO_e hm
  refine zx_put (j := 2) (ρ := sI (σ) (x0) 2 (x3)) C tC_3 k8 i9 ⟨by decide, Or.inl W_2_63⟩ rfl rfl rfl (sI_ok (fun _ => rfl)) dX3_take_71 ?_
  exact zx_lv [0, 1] [(0, .ref (x0)), (3, .int (x3))] rfl (l_X3_take_74 C htab hin  _ _ _ _ hm)
set_option maxRecDepth 100000 in
set_option maxHeartbeats 1000000 in
theorem l_X3_take_46 {p : Program} {l : Launch} {e : Env} {s : State} {m : MethodId} {args : Array Value} {below : List Frame} {meth : Method} {c : Code} {D : va_G} {aC : Nat → ClassId} {b0 fu : Nat} {σ0 τ : tM} {v : Unit}  (C : tCx p l s m args meth c yX3_take.cls cX3_take 4 none D aC b0 σ0) (htab : ∀ x ∈ c.exceptionTable.toList, False) (hin : meth.name = yX3_take.name)  : ∀ (n : Nat) (x0 : Nat) (x3 : Int32) (σ : tM), L_X3_take_46 b0 fu  n x0 x3 σ = some (v, τ) → tX p l e s m args below meth c 4 1 21 D aC b0 σ0 (.inl none) τ 46 [(0, .ref (x0)), (3, .int (x3))] [] σ := by
  intro n
  induction n with
  | zero => intro x0 x3 σ hm; unfold L_X3_take_46 at hm; cases hm
  | succ n ih =>
    intro x0 x3 σ hm
    unfold L_X3_take_46 at hm
    obtain ⟨rc46, hrc⟩ : ∃ z, z = L_X3_take_46 b0 fu  n := ⟨_, rfl⟩
    replace hm := ltb_e hm hrc
    rw [← hrc] at ih
    have hrc46 := ih
    clear ih hrc
    refine zx_iload_n C dX3_take_46 1 rfl ?_
    refine zx_if_le C 69 dX3_take_47 (by decide) (fun c7 => ?_) (fun c7 => ?_)
    · replace hm := ip_e hm c7
      exact zx_lv [0, 1] [(0, .ref (x0)), (3, .int (x3))] rfl (j_X3_take_69 C htab hin    hm)
    · replace hm := in_e hm c7
      refine zx_aload_n C dX3_take_50 0 rfl ?_
      obtain ⟨k22, i23, hm⟩ := ckO_e hm
      obtain ⟨a24, h25, hm⟩ := osm_e hm
      refine zx_get (j := 0) C tC_3 k22 i23 ⟨by decide, Or.inl W_2_56⟩ dX3_take_51 (.ref a24) (rf_s h25) ?_
      refine zx_iload_n C dX3_take_54 1 rfl ?_
      refine zx_iconst (v := 1) C dX3_take_55 (by decide) ?_
      refine zx_isub C dX3_take_56 ?_
      obtain ⟨n28, k26, i27, hm⟩ := ckR_e hm
      obtain ⟨h29, hm⟩ := ckI_e hm
      refine zx_bald C k26 i27 h29 dX3_take_57 ?_
      refine zx_bipush (v := 47) C dX3_take_58 (by decide) ?_
      refine zx_icmp_ne C 69 dX3_take_60 (by decide) (fun c30 => ?_) (fun c30 => ?_)
      · replace hm := in_e hm c30
        exact zx_lv [0, 1] [(0, .ref (x0)), (3, .int (x3))] rfl (j_X3_take_69 C htab hin    hm)
      · replace hm := ip_e hm c30
        obtain ⟨y31, hy31⟩ : ∃ z : Int32, z = (x3) + Int32.ofInt (-1) := ⟨_, rfl⟩
        replace hm := ltb_e hm hy31
        refine zx_iinc C [(3, .int (y31)), (0, .ref (x0))] dX3_take_63 1 rfl hy31.symm (by decide) rfl ?_
        refine zx_goto C 46 dX3_take_66 (by decide) ?_
        exact zx_lv [1, 0] [(0, .ref (x0)), (3, .int (y31))] rfl (hrc46 _ _ _ hm)
set_option maxRecDepth 100000 in
set_option maxHeartbeats 1000000 in
theorem l_X3_take_16 {p : Program} {l : Launch} {e : Env} {s : State} {m : MethodId} {args : Array Value} {below : List Frame} {meth : Method} {c : Code} {D : va_G} {aC : Nat → ClassId} {b0 fu : Nat} {σ0 τ : tM} {v : Unit}  (C : tCx p l s m args meth c yX3_take.cls cX3_take 4 none D aC b0 σ0) (htab : ∀ x ∈ c.exceptionTable.toList, False) (hin : meth.name = yX3_take.name)  : ∀ (n : Nat) (x0 : Nat) (x1 : Nat) (x3 : Int32) (σ : tM), L_X3_take_16 b0 fu  n x0 x1 x3 σ = some (v, τ) → tX p l e s m args below meth c 4 1 21 D aC b0 σ0 (.inl none) τ 16 [(0, .ref (x0)), (1, .ref (x1)), (3, .int (x3))] [] σ := by
  intro n
  induction n with
  | zero => intro x0 x1 x3 σ hm; unfold L_X3_take_16 at hm; cases hm
  | succ n ih =>
    intro x0 x1 x3 σ hm
    unfold L_X3_take_16 at hm
    obtain ⟨rc16, hrc⟩ : ∃ z, z = L_X3_take_16 b0 fu  n := ⟨_, rfl⟩
    replace hm := ltb_e hm hrc
    rw [← hrc] at ih
    have hrc16 := ih
    clear ih hrc
    refine zx_iload_n C dX3_take_16 2 rfl ?_
    refine zx_aload_n C dX3_take_17 0 rfl ?_
    obtain ⟨k3, i4, hm⟩ := ckO_e hm
    refine zx_get (j := 1) C tC_3 k3 i4 ⟨by decide, Or.inl W_2_59⟩ dX3_take_18 (.int (tI (σ) (x0) 1)) rfl ?_
    refine zx_icmp_ge C 41 dX3_take_21 (by decide) (fun c5 => ?_) (fun c5 => ?_)
    · replace hm := ip_e hm c5
      refine zx_aload_n C dX3_take_41 0 rfl ?_
      refine zx_get (j := 1) C tC_3 k3 i4 ⟨by decide, Or.inl W_2_59⟩ dX3_take_42 (.int (tI (σ) (x0) 1)) rfl ?_
      refine zx_topi (fun y6 hy6 => ?_)
      replace hm := ltb_e hm hy6
      refine zx_istore_n C [(3, .int (y6)), (0, .ref (x0)), (1, .ref (x1))] dX3_take_45 rfl (by decide) rfl ?_
      exact zx_lv [1, 0] [(0, .ref (x0)), (3, .int (y6))] rfl (l_X3_take_46 C htab hin  _ _ _ _ hm)
    · replace hm := in_e hm c5
      refine zx_aload_n C dX3_take_24 0 rfl ?_
      obtain ⟨a32, h33, hm⟩ := osm_e hm
      refine zx_get (j := 0) C tC_3 k3 i4 ⟨by decide, Or.inl W_2_56⟩ dX3_take_25 (.ref a32) (rf_s h33) ?_
      refine zx_iload_n C dX3_take_28 2 rfl ?_
      refine zx_aload_n C dX3_take_29 1 rfl ?_
      refine zx_iload_n C dX3_take_30 2 rfl ?_
      obtain ⟨k34, i35, hm⟩ := ckO_e hm
      obtain ⟨v36, ρ37, h38, hm⟩ := cll_e hm
      refine zx_callV (σ := σ) C [.int (x3)] tC_6 k34 i35 Y_X6_octet W_3_34 W_3_35 W_3_36 (c_X6_octet h38) (by decide) (by decide) rfl (Nat.le_of_ble_eq_true rfl) dX3_take_31 rfl ?_
      obtain ⟨n41, k39, i40, hm⟩ := ckR_e hm
      obtain ⟨h42, hm⟩ := ckI_e hm
      refine zx_bast C k39 i40 h42 dX3_take_34 ?_
      obtain ⟨y43, hy43⟩ : ∃ z : Int32, z = (x3) + Int32.ofInt 1 := ⟨_, rfl⟩
      replace hm := ltb_e hm hy43
      refine zx_iinc C [(3, .int (y43)), (0, .ref (x0)), (1, .ref (x1))] dX3_take_35 2 rfl hy43.symm (by decide) rfl ?_
      refine zx_goto C 16 dX3_take_38 (by decide) ?_
      exact zx_lv [1, 2, 0] [(0, .ref (x0)), (1, .ref (x1)), (3, .int (y43))] rfl (hrc16 _ _ _ _ hm)
set_option maxRecDepth 100000 in
set_option maxHeartbeats 1000000 in
theorem c_X3_take {l : Launch} {D : va_G} {aC : Nat → ClassId} {b0 fu : Nat} {a0 : Nat} {p0 : Nat} {p1 : Int32} {σ τ : tM} {v : Unit} (hm : m_X3_take b0 fu a0 p0 p1 σ = some (v, τ)) : tMt l D aC b0 yX3_take (Cond.code yX3_take cX3_take 4 none) 1 21 [.ref (a0), .ref (p0), .int (p1)] σ (.inl none) τ := by
  unfold m_X3_take at hm
  obtain ⟨hg, hm⟩ := grw_e hm
  refine tMt_of (n := 0) rfl (Nat.le_of_ble_eq_true rfl) hg ?_
  intro p e s m below meth c C htab hin
  refine zx_lv [0, 1, 2] [(0, .ref (a0)), (1, .ref (p0)), (2, .int (p1))] rfl ?_
  refine zx_aload_n C dX3_take_0 0 rfl ?_
  refine zx_iconst (v := 0) C dX3_take_1 (by decide) ?_
  refine zx_iload_n C dX3_take_2 2 rfl ?_
  refine zx_bipush (v := 120) C dX3_take_3 (by decide) ?_
  refine zx_min C W_3_32 W_2_106 W_1_10 W_2_107 (by decide) (by decide) (Nat.le_of_ble_eq_true rfl) dX3_take_5 ?_
  refine zx_max C W_3_33 W_2_109 W_1_10 W_2_110 (by decide) (by decide) (Nat.le_of_ble_eq_true rfl) dX3_take_8 ?_
  obtain ⟨k1, i2, hm⟩ := ckO_e hm
  refine zx_put (j := 1) (ρ := sI (σ) (a0) 1 ((if ((0 : Int32)) < ((if ((120 : Int32)) < (p1) then (120) else (p1) : Int32)) then ((if ((120 : Int32)) < (p1) then (120) else (p1) : Int32)) else (0) : Int32))) C tC_3 k1 i2 ⟨by decide, Or.inl W_2_59⟩ rfl rfl rfl (sI_ok (fun _ => rfl)) dX3_take_11 ?_
  refine zx_iconst (v := 0) C dX3_take_14 (by decide) ?_
  refine zx_istore_n C [(3, .int (0)), (0, .ref (a0)), (1, .ref (p0)), (2, .int (p1))] dX3_take_15 rfl (by decide) rfl ?_
  exact zx_lv [1, 2, 0] [(0, .ref (a0)), (1, .ref (p0)), (3, .int (0))] rfl (l_X3_take_16 C htab hin  _ _ _ _ _ hm)
abbrev cX3_hasOwnLastName : ByteArray := prog_5_method_4_code
def yX3_hasOwnLastName : MethodName := ⟨"SyncTree$PathText", "hasOwnLastName", "()Z"⟩
theorem Y_X3_hasOwnLastName : tY yX3_hasOwnLastName cX3_hasOwnLastName 1 (some .boolean) 0 := ⟨W_4_143, W_1_9, ⟨by decide +kernel, by decide +kernel⟩, by decide +kernel⟩
theorem dX3_hasOwnLastName_0 : decode cX3_hasOwnLastName 0 = .ok (.aload_n 0, 1) := by decide +kernel
theorem dX3_hasOwnLastName_1 : decode cX3_hasOwnLastName 1 = .ok (.getfield 22, 3) := by decide +kernel
theorem dX3_hasOwnLastName_4 : decode cX3_hasOwnLastName 4 = .ok (.ifCond .le 25, 3) := by decide +kernel
theorem dX3_hasOwnLastName_7 : decode cX3_hasOwnLastName 7 = .ok (.aload_n 0, 1) := by decide +kernel
theorem dX3_hasOwnLastName_8 : decode cX3_hasOwnLastName 8 = .ok (.getfield 9, 3) := by decide +kernel
theorem dX3_hasOwnLastName_11 : decode cX3_hasOwnLastName 11 = .ok (.aload_n 0, 1) := by decide +kernel
theorem dX3_hasOwnLastName_12 : decode cX3_hasOwnLastName 12 = .ok (.getfield 19, 3) := by decide +kernel
theorem dX3_hasOwnLastName_15 : decode cX3_hasOwnLastName 15 = .ok (.aload_n 0, 1) := by decide +kernel
theorem dX3_hasOwnLastName_16 : decode cX3_hasOwnLastName 16 = .ok (.getfield 22, 3) := by decide +kernel
theorem dX3_hasOwnLastName_19 : decode cX3_hasOwnLastName 19 = .ok (.invokestatic 40, 3) := by decide +kernel
theorem dX3_hasOwnLastName_22 : decode cX3_hasOwnLastName 22 = .ok (.ifCond .ne 7, 3) := by decide +kernel
theorem dX3_hasOwnLastName_25 : decode cX3_hasOwnLastName 25 = .ok (.iconst 1, 1) := by decide +kernel
theorem dX3_hasOwnLastName_26 : decode cX3_hasOwnLastName 26 = .ok (.goto 4, 3) := by decide +kernel
theorem dX3_hasOwnLastName_29 : decode cX3_hasOwnLastName 29 = .ok (.iconst 0, 1) := by decide +kernel
theorem dX3_hasOwnLastName_30 : decode cX3_hasOwnLastName 30 = .ok (.ireturn, 1) := by decide +kernel
def J_X3_hasOwnLastName_30 (b0 fu : Nat)  (s0 : Int32) (σ : tM) : Option ((Int32) × tM) := ckZ (s0) (some (s0, σ))
def J_X3_hasOwnLastName_29 (b0 fu : Nat)   (σ : tM) : Option ((Int32) × tM) := J_X3_hasOwnLastName_30 b0 fu   (0) (σ)
def m_X3_hasOwnLastName (b0 fu : Nat) (a0 : Nat) (σ : tM) : Option ((Int32) × tM) := grw σ (ckO b0 (σ) (a0) 3 (if (tI (σ) (a0) 3) ≤ (0) then J_X3_hasOwnLastName_29 b0 fu    (σ) else osm (tA (σ) (a0) 0) (fun a5 => cll (m_X3_isDots b0 fu (a5) (tI (σ) (a0) 2) (tI (σ) (a0) 3) (σ)) (fun v7 ρ8 => if (v7) = (0) then J_X3_hasOwnLastName_30 b0 fu   (1) (ρ8) else J_X3_hasOwnLastName_29 b0 fu    (ρ8)))))
set_option maxRecDepth 100000 in
set_option maxHeartbeats 1000000 in
theorem j_X3_hasOwnLastName_30 {p : Program} {l : Launch} {e : Env} {s : State} {m : MethodId} {args : Array Value} {below : List Frame} {meth : Method} {c : Code} {D : va_G} {aC : Nat → ClassId} {b0 fu : Nat} {σ0 τ : tM} {v : Int32}  (C : tCx p l s m args meth c yX3_hasOwnLastName.cls cX3_hasOwnLastName 1 (some .boolean) D aC b0 σ0) (htab : ∀ x ∈ c.exceptionTable.toList, False) (hin : meth.name = yX3_hasOwnLastName.name)  {s0 : Int32} {σ : tM} (hm : J_X3_hasOwnLastName_30 b0 fu  s0 σ = some (v, τ)) : tX p l e s m args below meth c 1 1 22 D aC b0 σ0 (.inl (some (.int v))) τ 30 [] [.int (s0)] σ := by
  unfold J_X3_hasOwnLastName_30 at hm
  obtain ⟨h4, hm⟩ := ckZ_e hm
  obtain ⟨rfl, rfl⟩ := ret_e hm
  exact zx_zret C rfl h4 rfl rfl dX3_hasOwnLastName_30
set_option maxRecDepth 100000 in
set_option maxHeartbeats 1000000 in
theorem j_X3_hasOwnLastName_29 {p : Program} {l : Launch} {e : Env} {s : State} {m : MethodId} {args : Array Value} {below : List Frame} {meth : Method} {c : Code} {D : va_G} {aC : Nat → ClassId} {b0 fu : Nat} {σ0 τ : tM} {v : Int32}  (C : tCx p l s m args meth c yX3_hasOwnLastName.cls cX3_hasOwnLastName 1 (some .boolean) D aC b0 σ0) (htab : ∀ x ∈ c.exceptionTable.toList, False) (hin : meth.name = yX3_hasOwnLastName.name)   {σ : tM} (hm : J_X3_hasOwnLastName_29 b0 fu   σ = some (v, τ)) : tX p l e s m args below meth c 1 1 22 D aC b0 σ0 (.inl (some (.int v))) τ 29 [] [] σ := by
  unfold J_X3_hasOwnLastName_29 at hm
  refine zx_iconst (v := 0) C dX3_hasOwnLastName_29 (by decide) ?_
  exact zx_lv [] [] rfl (j_X3_hasOwnLastName_30 C htab hin    hm)
set_option maxRecDepth 100000 in
set_option maxHeartbeats 1000000 in
theorem c_X3_hasOwnLastName {l : Launch} {D : va_G} {aC : Nat → ClassId} {b0 fu : Nat} {a0 : Nat} {σ τ : tM} {v : Int32} (hm : m_X3_hasOwnLastName b0 fu a0 σ = some (v, τ)) : tMt l D aC b0 yX3_hasOwnLastName (Cond.code yX3_hasOwnLastName cX3_hasOwnLastName 1 (some .boolean)) 1 22 [.ref (a0)] σ (.inl (some (.int v))) τ := by
  unfold m_X3_hasOwnLastName at hm
  obtain ⟨hg, hm⟩ := grw_e hm
  refine tMt_of (n := 0) rfl (Nat.le_of_ble_eq_true rfl) hg ?_
  intro p e s m below meth c C htab hin
  refine zx_lv [0] [(0, .ref (a0))] rfl ?_
  refine zx_aload_n C dX3_hasOwnLastName_0 0 rfl ?_
  obtain ⟨k1, i2, hm⟩ := ckO_e hm
  refine zx_get (j := 3) C tC_3 k1 i2 ⟨by decide, Or.inl W_2_66⟩ dX3_hasOwnLastName_1 (.int (tI (σ) (a0) 3)) rfl ?_
  refine zx_if_le C 29 dX3_hasOwnLastName_4 (by decide) (fun c3 => ?_) (fun c3 => ?_)
  · replace hm := ip_e hm c3
    exact zx_lv [] [] rfl (j_X3_hasOwnLastName_29 C htab hin    hm)
  · replace hm := in_e hm c3
    refine zx_aload_n C dX3_hasOwnLastName_7 0 rfl ?_
    obtain ⟨a5, h6, hm⟩ := osm_e hm
    refine zx_get (j := 0) C tC_3 k1 i2 ⟨by decide, Or.inl W_2_56⟩ dX3_hasOwnLastName_8 (.ref a5) (rf_s h6) ?_
    refine zx_aload_n C dX3_hasOwnLastName_11 0 rfl ?_
    refine zx_get (j := 2) C tC_3 k1 i2 ⟨by decide, Or.inl W_2_63⟩ dX3_hasOwnLastName_12 (.int (tI (σ) (a0) 2)) rfl ?_
    refine zx_aload_n C dX3_hasOwnLastName_15 0 rfl ?_
    refine zx_get (j := 3) C tC_3 k1 i2 ⟨by decide, Or.inl W_2_66⟩ dX3_hasOwnLastName_16 (.int (tI (σ) (a0) 3)) rfl ?_
    obtain ⟨v7, ρ8, h9, hm⟩ := cll_e hm
    refine zx_callS (σ := σ) C [.ref (a5), .int (tI (σ) (a0) 2), .int (tI (σ) (a0) 3)] Y_X3_isDots W_4_144 W_4_94 (c_X3_isDots h9) (by decide) (by decide) rfl (Nat.le_of_ble_eq_true rfl) dX3_hasOwnLastName_19 rfl ?_
    refine zx_if_ne C 29 dX3_hasOwnLastName_22 (by decide) (fun c10 => ?_) (fun c10 => ?_)
    · replace hm := in_e hm c10
      exact zx_lv [] [] rfl (j_X3_hasOwnLastName_29 C htab hin    hm)
    · replace hm := ip_e hm c10
      refine zx_iconst (v := 1) C dX3_hasOwnLastName_25 (by decide) ?_
      refine zx_goto C 30 dX3_hasOwnLastName_26 (by decide) ?_
      exact zx_lv [] [] rfl (j_X3_hasOwnLastName_30 C htab hin    hm)
abbrev cX5_forgetMarks : ByteArray := prog_7_method_3_code
def yX5_forgetMarks : MethodName := ⟨"SyncTree$Space", "forgetMarks", "()V"⟩
theorem Y_X5_forgetMarks : tY yX5_forgetMarks cX5_forgetMarks 2 none 0 := ⟨W_2_118, W_1_3, ⟨by decide +kernel, by decide +kernel⟩, by decide +kernel⟩
theorem dX5_forgetMarks_0 : decode cX5_forgetMarks 0 = .ok (.iconst 0, 1) := by decide +kernel
theorem dX5_forgetMarks_1 : decode cX5_forgetMarks 1 = .ok (.istore_n 1, 1) := by decide +kernel
theorem dX5_forgetMarks_2 : decode cX5_forgetMarks 2 = .ok (.iload_n 1, 1) := by decide +kernel
theorem dX5_forgetMarks_3 : decode cX5_forgetMarks 3 = .ok (.aload_n 0, 1) := by decide +kernel
theorem dX5_forgetMarks_4 : decode cX5_forgetMarks 4 = .ok (.getfield 48, 3) := by decide +kernel
theorem dX5_forgetMarks_7 : decode cX5_forgetMarks 7 = .ok (.if_icmp .ge 21, 3) := by decide +kernel
theorem dX5_forgetMarks_10 : decode cX5_forgetMarks 10 = .ok (.aload_n 0, 1) := by decide +kernel
theorem dX5_forgetMarks_11 : decode cX5_forgetMarks 11 = .ok (.getfield 65, 3) := by decide +kernel
theorem dX5_forgetMarks_14 : decode cX5_forgetMarks 14 = .ok (.ifCond .le 14, 3) := by decide +kernel
theorem dX5_forgetMarks_17 : decode cX5_forgetMarks 17 = .ok (.aload_n 0, 1) := by decide +kernel
theorem dX5_forgetMarks_18 : decode cX5_forgetMarks 18 = .ok (.iload_n 1, 1) := by decide +kernel
theorem dX5_forgetMarks_19 : decode cX5_forgetMarks 19 = .ok (.invokevirtual 68, 3) := by decide +kernel
theorem dX5_forgetMarks_22 : decode cX5_forgetMarks 22 = .ok (.iinc 1 1, 3) := by decide +kernel
theorem dX5_forgetMarks_25 : decode cX5_forgetMarks 25 = .ok (.goto (-23), 3) := by decide +kernel
theorem dX5_forgetMarks_28 : decode cX5_forgetMarks 28 = .ok (.aload_n 0, 1) := by decide +kernel
theorem dX5_forgetMarks_29 : decode cX5_forgetMarks 29 = .ok (.aload_n 0, 1) := by decide +kernel
theorem dX5_forgetMarks_30 : decode cX5_forgetMarks 30 = .ok (.getfield 72, 3) := by decide +kernel
theorem dX5_forgetMarks_33 : decode cX5_forgetMarks 33 = .ok (.invokevirtual 75, 3) := by decide +kernel
theorem dX5_forgetMarks_36 : decode cX5_forgetMarks 36 = .ok (.return_, 1) := by decide +kernel
def J_X5_forgetMarks_28 (b0 fu : Nat)  (x0 : Nat) (σ : tM) : Option ((Unit) × tM) := ckO b0 (σ) (x0) 5 (cll (m_X5_emptyGroup b0 fu (x0) (tI (σ) (x0) 16) (σ)) (fun v6 ρ7 => some ((), ρ7)))
def L_X5_forgetMarks_2 (b0 fu : Nat)  : Nat → Nat → Int32 → tM → Option ((Unit) × tM)
  | 0, _, _, _ => none
  | n + 1, x0, x1, σ => ltb (L_X5_forgetMarks_2 b0 fu  n) (fun rc2 => ckO b0 (σ) (x0) 5 (if (tI (σ) (x0) 7) ≤ (x1) then J_X5_forgetMarks_28 b0 fu   (x0) (σ) else if (tI (σ) (x0) 13) ≤ (0) then J_X5_forgetMarks_28 b0 fu   (x0) (σ) else cll (m_X5_clean b0 fu (x0) (x1) (σ)) (fun v10 ρ11 => ltb ((x1) + Int32.ofInt 1) (fun y13 => rc2 (x0) (y13) (ρ11)))))
def m_X5_forgetMarks (b0 fu : Nat) (a0 : Nat) (σ : tM) : Option ((Unit) × tM) := grw σ (L_X5_forgetMarks_2 b0 fu  (fu) (a0) (0) (σ))
set_option maxRecDepth 100000 in
set_option maxHeartbeats 1000000 in
theorem j_X5_forgetMarks_28 {p : Program} {l : Launch} {e : Env} {s : State} {m : MethodId} {args : Array Value} {below : List Frame} {meth : Method} {c : Code} {D : va_G} {aC : Nat → ClassId} {b0 fu : Nat} {σ0 τ : tM} {v : Unit}  (C : tCx p l s m args meth c yX5_forgetMarks.cls cX5_forgetMarks 2 none D aC b0 σ0) (htab : ∀ x ∈ c.exceptionTable.toList, False) (hin : meth.name = yX5_forgetMarks.name)  {x0 : Nat} {σ : tM} (hm : J_X5_forgetMarks_28 b0 fu  x0 σ = some (v, τ)) : tX p l e s m args below meth c 2 1 22 D aC b0 σ0 (.inl none) τ 28 [(0, .ref (x0))] [] σ := by
  unfold J_X5_forgetMarks_28 at hm
  refine zx_aload_n C dX5_forgetMarks_28 0 rfl ?_
  refine zx_aload_n C dX5_forgetMarks_29 0 rfl ?_
  obtain ⟨k4, i5, hm⟩ := ckO_e hm
  refine zx_get (j := 16) C tC_5 k4 i5 ⟨by decide, Or.inl W_1_119⟩ dX5_forgetMarks_30 (.int (tI (σ) (x0) 16)) rfl ?_
  obtain ⟨v6, ρ7, h8, hm⟩ := cll_e hm
  refine zx_callV (σ := σ) C [.int (tI (σ) (x0) 16)] tC_5 k4 i5 Y_X5_emptyGroup W_2_123 W_2_124 W_2_125 (c_X5_emptyGroup h8) (by decide) (by decide) rfl (Nat.le_of_ble_eq_true rfl) dX5_forgetMarks_33 rfl ?_
  obtain ⟨rfl, rfl⟩ := ret_e hm
  exact zx_vret C rfl rfl rfl dX5_forgetMarks_36
set_option maxRecDepth 100000 in
set_option maxHeartbeats 1000000 in
theorem l_X5_forgetMarks_2 {p : Program} {l : Launch} {e : Env} {s : State} {m : MethodId} {args : Array Value} {below : List Frame} {meth : Method} {c : Code} {D : va_G} {aC : Nat → ClassId} {b0 fu : Nat} {σ0 τ : tM} {v : Unit}  (C : tCx p l s m args meth c yX5_forgetMarks.cls cX5_forgetMarks 2 none D aC b0 σ0) (htab : ∀ x ∈ c.exceptionTable.toList, False) (hin : meth.name = yX5_forgetMarks.name)  : ∀ (n : Nat) (x0 : Nat) (x1 : Int32) (σ : tM), L_X5_forgetMarks_2 b0 fu  n x0 x1 σ = some (v, τ) → tX p l e s m args below meth c 2 1 22 D aC b0 σ0 (.inl none) τ 2 [(0, .ref (x0)), (1, .int (x1))] [] σ := by
  intro n
  induction n with
  | zero => intro x0 x1 σ hm; unfold L_X5_forgetMarks_2 at hm; cases hm
  | succ n ih =>
    intro x0 x1 σ hm
    unfold L_X5_forgetMarks_2 at hm
    obtain ⟨rc2, hrc⟩ : ∃ z, z = L_X5_forgetMarks_2 b0 fu  n := ⟨_, rfl⟩
    replace hm := ltb_e hm hrc
    rw [← hrc] at ih
    have hrc2 := ih
    clear ih hrc
    refine zx_iload_n C dX5_forgetMarks_2 1 rfl ?_
    refine zx_aload_n C dX5_forgetMarks_3 0 rfl ?_
    obtain ⟨k1, i2, hm⟩ := ckO_e hm
    refine zx_get (j := 7) C tC_5 k1 i2 ⟨by decide, Or.inl W_1_104⟩ dX5_forgetMarks_4 (.int (tI (σ) (x0) 7)) rfl ?_
    refine zx_icmp_ge C 28 dX5_forgetMarks_7 (by decide) (fun c3 => ?_) (fun c3 => ?_)
    · replace hm := ip_e hm c3
      exact zx_lv [0] [(0, .ref (x0))] rfl (j_X5_forgetMarks_28 C htab hin    hm)
    · replace hm := in_e hm c3
      refine zx_aload_n C dX5_forgetMarks_10 0 rfl ?_
      refine zx_get (j := 13) C tC_5 k1 i2 ⟨by decide, Or.inl W_1_115⟩ dX5_forgetMarks_11 (.int (tI (σ) (x0) 13)) rfl ?_
      refine zx_if_le C 28 dX5_forgetMarks_14 (by decide) (fun c9 => ?_) (fun c9 => ?_)
      · replace hm := ip_e hm c9
        exact zx_lv [0] [(0, .ref (x0))] rfl (j_X5_forgetMarks_28 C htab hin    hm)
      · replace hm := in_e hm c9
        refine zx_aload_n C dX5_forgetMarks_17 0 rfl ?_
        refine zx_iload_n C dX5_forgetMarks_18 1 rfl ?_
        obtain ⟨v10, ρ11, h12, hm⟩ := cll_e hm
        refine zx_callV (σ := σ) C [.int (x1)] tC_5 k1 i2 Y_X5_clean W_2_119 W_2_120 W_2_121 (c_X5_clean h12) (by decide) (by decide) rfl (Nat.le_of_ble_eq_true rfl) dX5_forgetMarks_19 rfl ?_
        obtain ⟨y13, hy13⟩ : ∃ z : Int32, z = (x1) + Int32.ofInt 1 := ⟨_, rfl⟩
        replace hm := ltb_e hm hy13
        refine zx_iinc C [(1, .int (y13)), (0, .ref (x0))] dX5_forgetMarks_22 1 rfl hy13.symm (by decide) rfl ?_
        refine zx_goto C 2 dX5_forgetMarks_25 (by decide) ?_
        exact zx_lv [1, 0] [(0, .ref (x0)), (1, .int (y13))] rfl (hrc2 _ _ _ hm)
set_option maxRecDepth 100000 in
set_option maxHeartbeats 1000000 in
theorem c_X5_forgetMarks {l : Launch} {D : va_G} {aC : Nat → ClassId} {b0 fu : Nat} {a0 : Nat} {σ τ : tM} {v : Unit} (hm : m_X5_forgetMarks b0 fu a0 σ = some (v, τ)) : tMt l D aC b0 yX5_forgetMarks (Cond.code yX5_forgetMarks cX5_forgetMarks 2 none) 1 22 [.ref (a0)] σ (.inl none) τ := by
  unfold m_X5_forgetMarks at hm
  obtain ⟨hg, hm⟩ := grw_e hm
  refine tMt_of (n := 0) rfl (Nat.le_of_ble_eq_true rfl) hg ?_
  intro p e s m below meth c C htab hin
  refine zx_lv [0] [(0, .ref (a0))] rfl ?_
  refine zx_iconst (v := 0) C dX5_forgetMarks_0 (by decide) ?_
  refine zx_istore_n C [(1, .int (0)), (0, .ref (a0))] dX5_forgetMarks_1 rfl (by decide) rfl ?_
  exact zx_lv [1, 0] [(0, .ref (a0)), (1, .int (0))] rfl (l_X5_forgetMarks_2 C htab hin  _ _ _ _ hm)
abbrev cX5_readMap : ByteArray := prog_7_method_5_code
def yX5_readMap : MethodName := ⟨"SyncTree$Space", "readMap", "()V"⟩
theorem Y_X5_readMap : tY yX5_readMap cX5_readMap 4 none 0 := ⟨W_2_139, W_1_3, ⟨by decide +kernel, by decide +kernel⟩, by decide +kernel⟩
theorem dX5_readMap_0 : decode cX5_readMap 0 = .ok (.aload_n 0, 1) := by decide +kernel
theorem dX5_readMap_1 : decode cX5_readMap 1 = .ok (.invokevirtual 36, 3) := by decide +kernel
theorem dX5_readMap_4 : decode cX5_readMap 4 = .ok (.aload_n 0, 1) := by decide +kernel
theorem dX5_readMap_5 : decode cX5_readMap 5 = .ok (.iconst 0, 1) := by decide +kernel
theorem dX5_readMap_6 : decode cX5_readMap 6 = .ok (.putfield 84, 3) := by decide +kernel
theorem dX5_readMap_9 : decode cX5_readMap 9 = .ok (.aload_n 0, 1) := by decide +kernel
theorem dX5_readMap_10 : decode cX5_readMap 10 = .ok (.iconst 0, 1) := by decide +kernel
theorem dX5_readMap_11 : decode cX5_readMap 11 = .ok (.putfield 87, 3) := by decide +kernel
theorem dX5_readMap_14 : decode cX5_readMap 14 = .ok (.aload_n 0, 1) := by decide +kernel
theorem dX5_readMap_15 : decode cX5_readMap 15 = .ok (.bipush 34, 2) := by decide +kernel
theorem dX5_readMap_17 : decode cX5_readMap 17 = .ok (.putfield 90, 3) := by decide +kernel
theorem dX5_readMap_20 : decode cX5_readMap 20 = .ok (.bipush 34, 2) := by decide +kernel
theorem dX5_readMap_22 : decode cX5_readMap 22 = .ok (.istore_n 1, 1) := by decide +kernel
theorem dX5_readMap_23 : decode cX5_readMap 23 = .ok (.iload_n 1, 1) := by decide +kernel
theorem dX5_readMap_24 : decode cX5_readMap 24 = .ok (.aload_n 0, 1) := by decide +kernel
theorem dX5_readMap_25 : decode cX5_readMap 25 = .ok (.getfield 48, 3) := by decide +kernel
theorem dX5_readMap_28 : decode cX5_readMap 28 = .ok (.if_icmp .ge 74, 3) := by decide +kernel
theorem dX5_readMap_31 : decode cX5_readMap 31 = .ok (.iload_n 1, 1) := by decide +kernel
theorem dX5_readMap_32 : decode cX5_readMap 32 = .ok (.bipush 34, 2) := by decide +kernel
theorem dX5_readMap_34 : decode cX5_readMap 34 = .ok (.isub, 1) := by decide +kernel
theorem dX5_readMap_35 : decode cX5_readMap 35 = .ok (.istore_n 2, 1) := by decide +kernel
theorem dX5_readMap_36 : decode cX5_readMap 36 = .ok (.aload_n 0, 1) := by decide +kernel
theorem dX5_readMap_37 : decode cX5_readMap 37 = .ok (.iconst 1, 1) := by decide +kernel
theorem dX5_readMap_38 : decode cX5_readMap 38 = .ok (.iload_n 2, 1) := by decide +kernel
theorem dX5_readMap_39 : decode cX5_readMap 39 = .ok (.bipush 6, 2) := by decide +kernel
theorem dX5_readMap_41 : decode cX5_readMap 41 = .ok (.ishr, 1) := by decide +kernel
theorem dX5_readMap_42 : decode cX5_readMap 42 = .ok (.invokevirtual 93, 3) := by decide +kernel
theorem dX5_readMap_45 : decode cX5_readMap 45 = .ok (.iload_n 2, 1) := by decide +kernel
theorem dX5_readMap_46 : decode cX5_readMap 46 = .ok (.bipush 63, 2) := by decide +kernel
theorem dX5_readMap_48 : decode cX5_readMap 48 = .ok (.iand, 1) := by decide +kernel
theorem dX5_readMap_49 : decode cX5_readMap 49 = .ok (.lushr, 1) := by decide +kernel
theorem dX5_readMap_50 : decode cX5_readMap 50 = .ok (.lconst 1, 1) := by decide +kernel
theorem dX5_readMap_51 : decode cX5_readMap 51 = .ok (.land, 1) := by decide +kernel
theorem dX5_readMap_52 : decode cX5_readMap 52 = .ok (.lconst 0, 1) := by decide +kernel
theorem dX5_readMap_53 : decode cX5_readMap 53 = .ok (.lcmp, 1) := by decide +kernel
theorem dX5_readMap_54 : decode cX5_readMap 54 = .ok (.ifCond .eq 7, 3) := by decide +kernel
theorem dX5_readMap_57 : decode cX5_readMap 57 = .ok (.iconst 1, 1) := by decide +kernel
theorem dX5_readMap_58 : decode cX5_readMap 58 = .ok (.goto 4, 3) := by decide +kernel
theorem dX5_readMap_61 : decode cX5_readMap 61 = .ok (.iconst 0, 1) := by decide +kernel
theorem dX5_readMap_62 : decode cX5_readMap 62 = .ok (.istore_n 3, 1) := by decide +kernel
theorem dX5_readMap_63 : decode cX5_readMap 63 = .ok (.aload_n 0, 1) := by decide +kernel
theorem dX5_readMap_64 : decode cX5_readMap 64 = .ok (.getfield 16, 3) := by decide +kernel
theorem dX5_readMap_67 : decode cX5_readMap 67 = .ok (.iload_n 1, 1) := by decide +kernel
theorem dX5_readMap_68 : decode cX5_readMap 68 = .ok (.iload_n 3, 1) := by decide +kernel
theorem dX5_readMap_69 : decode cX5_readMap 69 = .ok (.ifCond .eq 7, 3) := by decide +kernel
theorem dX5_readMap_72 : decode cX5_readMap 72 = .ok (.iconst (-1), 1) := by decide +kernel
theorem dX5_readMap_73 : decode cX5_readMap 73 = .ok (.goto 4, 3) := by decide +kernel
theorem dX5_readMap_76 : decode cX5_readMap 76 = .ok (.iconst 0, 1) := by decide +kernel
theorem dX5_readMap_77 : decode cX5_readMap 77 = .ok (.iastore, 1) := by decide +kernel
theorem dX5_readMap_78 : decode cX5_readMap 78 = .ok (.aload_n 0, 1) := by decide +kernel
theorem dX5_readMap_79 : decode cX5_readMap 79 = .ok (.dup, 1) := by decide +kernel
theorem dX5_readMap_80 : decode cX5_readMap 80 = .ok (.getfield 84, 3) := by decide +kernel
theorem dX5_readMap_83 : decode cX5_readMap 83 = .ok (.iload_n 3, 1) := by decide +kernel
theorem dX5_readMap_84 : decode cX5_readMap 84 = .ok (.ifCond .eq 7, 3) := by decide +kernel
theorem dX5_readMap_87 : decode cX5_readMap 87 = .ok (.iconst 0, 1) := by decide +kernel
theorem dX5_readMap_88 : decode cX5_readMap 88 = .ok (.goto 4, 3) := by decide +kernel
theorem dX5_readMap_91 : decode cX5_readMap 91 = .ok (.iconst 1, 1) := by decide +kernel
theorem dX5_readMap_92 : decode cX5_readMap 92 = .ok (.iadd, 1) := by decide +kernel
theorem dX5_readMap_93 : decode cX5_readMap 93 = .ok (.putfield 84, 3) := by decide +kernel
theorem dX5_readMap_96 : decode cX5_readMap 96 = .ok (.iinc 1 1, 3) := by decide +kernel
theorem dX5_readMap_99 : decode cX5_readMap 99 = .ok (.goto (-76), 3) := by decide +kernel
theorem dX5_readMap_102 : decode cX5_readMap 102 = .ok (.return_, 1) := by decide +kernel
def J_X5_readMap_92 (b0 fu : Nat) (rc23 : Nat → Int32 → tM → Option ((Unit) × tM)) (x0 : Nat) (x1 : Int32) (s0 : Nat) (s1 : Int32) (s2 : Int32) (σ : tM) : Option ((Unit) × tM) := ckO b0 (σ) (s0) 5 (ltb ((x1) + Int32.ofInt 1) (fun y30 => rc23 (x0) (y30) (sI (σ) (s0) 9 ((s1) + (s2)))))
def J_X5_readMap_77 (b0 fu : Nat) (rc23 : Nat → Int32 → tM → Option ((Unit) × tM)) (x0 : Nat) (x1 : Int32) (x3 : Int32) (s0 : Nat) (s1 : Int32) (s2 : Int32) (σ : tM) : Option ((Unit) × tM) := ckR b0 (σ) (s0) 0 (fun n23 => ckI (s1) (n23) (ckO b0 (sI (σ) (s0) ((s1).toNatClampNeg) (s2)) (x0) 5 (if (x3) = (0) then J_X5_readMap_92 b0 fu rc23  (x0) (x1) (x0) (tI (sI (σ) (s0) ((s1).toNatClampNeg) (s2)) (x0) 9) (1) (sI (σ) (s0) ((s1).toNatClampNeg) (s2)) else J_X5_readMap_92 b0 fu rc23  (x0) (x1) (x0) (tI (sI (σ) (s0) ((s1).toNatClampNeg) (s2)) (x0) 9) (0) (sI (σ) (s0) ((s1).toNatClampNeg) (s2)))))
def J_X5_readMap_62 (b0 fu : Nat) (rc23 : Nat → Int32 → tM → Option ((Unit) × tM)) (x0 : Nat) (x1 : Int32) (s0 : Int32) (σ : tM) : Option ((Unit) × tM) := ckO b0 (σ) (x0) 5 (osm (tA (σ) (x0) 1) (fun a18 => if (s0) = (0) then J_X5_readMap_77 b0 fu rc23  (x0) (x1) (s0) (a18) (x1) (0) (σ) else J_X5_readMap_77 b0 fu rc23  (x0) (x1) (s0) (a18) (x1) ((-1)) (σ)))
def L_X5_readMap_23 (b0 fu : Nat)  : Nat → Nat → Int32 → tM → Option ((Unit) × tM)
  | 0, _, _, _ => none
  | n + 1, x0, x1, σ => ltb (L_X5_readMap_23 b0 fu  n) (fun rc23 => ckO b0 (σ) (x0) 5 (if (tI (σ) (x0) 7) ≤ (x1) then some ((), σ) else ltb (((x1) - (34) : Int32)) (fun y11 => cll (m_X5_word b0 fu (x0) (1) ((y11) >>> (((6 : Int32)) &&& 31)) (σ)) (fun v12 ρ13 => if (lg_cmp ((((v12).toUInt64 >>> (((y11) &&& (63)).toInt64.toUInt64 &&& Int64.toUInt64 63)).toInt64) &&& (1)) (0)) = (0) then J_X5_readMap_62 b0 fu rc23  (x0) (x1) (0) (ρ13) else J_X5_readMap_62 b0 fu rc23  (x0) (x1) (1) (ρ13)))))
def m_X5_readMap (b0 fu : Nat) (a0 : Nat) (σ : tM) : Option ((Unit) × tM) := grw σ (ckO b0 (σ) (a0) 5 (cll (m_X5_forgetMarks b0 fu (a0) (σ)) (fun v3 ρ4 => ckO b0 (ρ4) (a0) 5 (L_X5_readMap_23 b0 fu  (fu) (a0) (34) (sI (sI (sI (ρ4) (a0) 9 (0)) (a0) 10 (0)) (a0) 14 (34))))))
set_option maxRecDepth 100000 in
set_option maxHeartbeats 1000000 in
theorem j_X5_readMap_92 {p : Program} {l : Launch} {e : Env} {s : State} {m : MethodId} {args : Array Value} {below : List Frame} {meth : Method} {c : Code} {D : va_G} {aC : Nat → ClassId} {b0 fu : Nat} {σ0 τ : tM} {v : Unit} {rc23 : Nat → Int32 → tM → Option ((Unit) × tM)} (C : tCx p l s m args meth c yX5_readMap.cls cX5_readMap 4 none D aC b0 σ0) (htab : ∀ x ∈ c.exceptionTable.toList, False) (hin : meth.name = yX5_readMap.name) (hrc23 : ∀ (x0 : Nat) (x1 : Int32) (ρ : tM), rc23 x0 x1 ρ = some (v, τ) → tX p l e s m args below meth c 4 2 43 D aC b0 σ0 (.inl none) τ 23 [(0, .ref (x0)), (1, .int (x1))] [] ρ) {x0 : Nat} {x1 : Int32} {s0 : Nat} {s1 : Int32} {s2 : Int32} {σ : tM} (hm : J_X5_readMap_92 b0 fu rc23 x0 x1 s0 s1 s2 σ = some (v, τ)) : tX p l e s m args below meth c 4 2 43 D aC b0 σ0 (.inl none) τ 92 [(0, .ref (x0)), (1, .int (x1))] [.int (s2), .int (s1), .ref (s0)] σ := by
  unfold J_X5_readMap_92 at hm
  refine zx_iadd C dX5_readMap_92 ?_
  obtain ⟨k28, i29, hm⟩ := ckO_e hm
  refine zx_put (j := 9) (ρ := sI (σ) (s0) 9 ((s1) + (s2))) C tC_5 k28 i29 ⟨by decide, Or.inl W_1_107⟩ rfl rfl rfl (sI_ok (fun _ => rfl)) dX5_readMap_93 ?_
  obtain ⟨y30, hy30⟩ : ∃ z : Int32, z = (x1) + Int32.ofInt 1 := ⟨_, rfl⟩
  replace hm := ltb_e hm hy30
  refine zx_iinc C [(1, .int (y30)), (0, .ref (x0))] dX5_readMap_96 1 rfl hy30.symm (by decide) rfl ?_
  refine zx_goto C 23 dX5_readMap_99 (by decide) ?_
  exact zx_lv [1, 0] [(0, .ref (x0)), (1, .int (y30))] rfl (hrc23 _ _ _ hm)
set_option maxRecDepth 100000 in
set_option maxHeartbeats 1000000 in
theorem j_X5_readMap_77 {p : Program} {l : Launch} {e : Env} {s : State} {m : MethodId} {args : Array Value} {below : List Frame} {meth : Method} {c : Code} {D : va_G} {aC : Nat → ClassId} {b0 fu : Nat} {σ0 τ : tM} {v : Unit} {rc23 : Nat → Int32 → tM → Option ((Unit) × tM)} (C : tCx p l s m args meth c yX5_readMap.cls cX5_readMap 4 none D aC b0 σ0) (htab : ∀ x ∈ c.exceptionTable.toList, False) (hin : meth.name = yX5_readMap.name) (hrc23 : ∀ (x0 : Nat) (x1 : Int32) (ρ : tM), rc23 x0 x1 ρ = some (v, τ) → tX p l e s m args below meth c 4 2 43 D aC b0 σ0 (.inl none) τ 23 [(0, .ref (x0)), (1, .int (x1))] [] ρ) {x0 : Nat} {x1 : Int32} {x3 : Int32} {s0 : Nat} {s1 : Int32} {s2 : Int32} {σ : tM} (hm : J_X5_readMap_77 b0 fu rc23 x0 x1 x3 s0 s1 s2 σ = some (v, τ)) : tX p l e s m args below meth c 4 2 43 D aC b0 σ0 (.inl none) τ 77 [(0, .ref (x0)), (1, .int (x1)), (3, .int (x3))] [.int (s2), .int (s1), .ref (s0)] σ := by
  unfold J_X5_readMap_77 at hm
  obtain ⟨n23, k21, i22, hm⟩ := ckR_e hm
  obtain ⟨h24, hm⟩ := ckI_e hm
  refine zx_iast C k21 i22 h24 dX5_readMap_77 ?_
  refine zx_aload_n C dX5_readMap_78 0 rfl ?_
  refine zx_dup C dX5_readMap_79 rfl ?_
  obtain ⟨k25, i26, hm⟩ := ckO_e hm
  refine zx_get (j := 9) C tC_5 k25 i26 ⟨by decide, Or.inl W_1_107⟩ dX5_readMap_80 (.int (tI (sI (σ) (s0) ((s1).toNatClampNeg) (s2)) (x0) 9)) rfl ?_
  refine zx_iload_n C dX5_readMap_83 2 rfl ?_
  refine zx_if_eq C 91 dX5_readMap_84 (by decide) (fun c27 => ?_) (fun c27 => ?_)
  · replace hm := ip_e hm c27
    refine zx_iconst (v := 1) C dX5_readMap_91 (by decide) ?_
    exact zx_lv [0, 1] [(0, .ref (x0)), (1, .int (x1))] rfl (j_X5_readMap_92 C htab hin hrc23   hm)
  · replace hm := in_e hm c27
    refine zx_iconst (v := 0) C dX5_readMap_87 (by decide) ?_
    refine zx_goto C 92 dX5_readMap_88 (by decide) ?_
    exact zx_lv [0, 1] [(0, .ref (x0)), (1, .int (x1))] rfl (j_X5_readMap_92 C htab hin hrc23   hm)
set_option maxRecDepth 100000 in
set_option maxHeartbeats 1000000 in
theorem j_X5_readMap_62 {p : Program} {l : Launch} {e : Env} {s : State} {m : MethodId} {args : Array Value} {below : List Frame} {meth : Method} {c : Code} {D : va_G} {aC : Nat → ClassId} {b0 fu : Nat} {σ0 τ : tM} {v : Unit} {rc23 : Nat → Int32 → tM → Option ((Unit) × tM)} (C : tCx p l s m args meth c yX5_readMap.cls cX5_readMap 4 none D aC b0 σ0) (htab : ∀ x ∈ c.exceptionTable.toList, False) (hin : meth.name = yX5_readMap.name) (hrc23 : ∀ (x0 : Nat) (x1 : Int32) (ρ : tM), rc23 x0 x1 ρ = some (v, τ) → tX p l e s m args below meth c 4 2 43 D aC b0 σ0 (.inl none) τ 23 [(0, .ref (x0)), (1, .int (x1))] [] ρ) {x0 : Nat} {x1 : Int32} {s0 : Int32} {σ : tM} (hm : J_X5_readMap_62 b0 fu rc23 x0 x1 s0 σ = some (v, τ)) : tX p l e s m args below meth c 4 2 43 D aC b0 σ0 (.inl none) τ 62 [(0, .ref (x0)), (1, .int (x1))] [.int (s0)] σ := by
  unfold J_X5_readMap_62 at hm
  refine zx_istore_n C [(3, .int (s0)), (0, .ref (x0)), (1, .int (x1))] dX5_readMap_62 rfl (by decide) rfl ?_
  refine zx_aload_n C dX5_readMap_63 1 rfl ?_
  obtain ⟨k16, i17, hm⟩ := ckO_e hm
  obtain ⟨a18, h19, hm⟩ := osm_e hm
  refine zx_get (j := 1) C tC_5 k16 i17 ⟨by decide, Or.inl W_1_97⟩ dX5_readMap_64 (.ref a18) (rf_s h19) ?_
  refine zx_iload_n C dX5_readMap_67 2 rfl ?_
  refine zx_iload_n C dX5_readMap_68 0 rfl ?_
  refine zx_if_eq C 76 dX5_readMap_69 (by decide) (fun c20 => ?_) (fun c20 => ?_)
  · replace hm := ip_e hm c20
    refine zx_iconst (v := 0) C dX5_readMap_76 (by decide) ?_
    exact zx_lv [1, 2, 0] [(0, .ref (x0)), (1, .int (x1)), (3, .int (s0))] rfl (j_X5_readMap_77 C htab hin hrc23   hm)
  · replace hm := in_e hm c20
    refine zx_iconst (v := (-1)) C dX5_readMap_72 (by decide) ?_
    refine zx_goto C 77 dX5_readMap_73 (by decide) ?_
    exact zx_lv [1, 2, 0] [(0, .ref (x0)), (1, .int (x1)), (3, .int (s0))] rfl (j_X5_readMap_77 C htab hin hrc23   hm)
set_option maxRecDepth 100000 in
set_option maxHeartbeats 1000000 in
theorem l_X5_readMap_23 {p : Program} {l : Launch} {e : Env} {s : State} {m : MethodId} {args : Array Value} {below : List Frame} {meth : Method} {c : Code} {D : va_G} {aC : Nat → ClassId} {b0 fu : Nat} {σ0 τ : tM} {v : Unit}  (C : tCx p l s m args meth c yX5_readMap.cls cX5_readMap 4 none D aC b0 σ0) (htab : ∀ x ∈ c.exceptionTable.toList, False) (hin : meth.name = yX5_readMap.name)  : ∀ (n : Nat) (x0 : Nat) (x1 : Int32) (σ : tM), L_X5_readMap_23 b0 fu  n x0 x1 σ = some (v, τ) → tX p l e s m args below meth c 4 2 43 D aC b0 σ0 (.inl none) τ 23 [(0, .ref (x0)), (1, .int (x1))] [] σ := by
  intro n
  induction n with
  | zero => intro x0 x1 σ hm; unfold L_X5_readMap_23 at hm; cases hm
  | succ n ih =>
    intro x0 x1 σ hm
    unfold L_X5_readMap_23 at hm
    obtain ⟨rc23, hrc⟩ : ∃ z, z = L_X5_readMap_23 b0 fu  n := ⟨_, rfl⟩
    replace hm := ltb_e hm hrc
    rw [← hrc] at ih
    have hrc23 := ih
    clear ih hrc
    refine zx_iload_n C dX5_readMap_23 1 rfl ?_
    refine zx_aload_n C dX5_readMap_24 0 rfl ?_
    obtain ⟨k8, i9, hm⟩ := ckO_e hm
    refine zx_get (j := 7) C tC_5 k8 i9 ⟨by decide, Or.inl W_1_104⟩ dX5_readMap_25 (.int (tI (σ) (x0) 7)) rfl ?_
    refine zx_icmp_ge C 102 dX5_readMap_28 (by decide) (fun c10 => ?_) (fun c10 => ?_)
    · replace hm := ip_e hm c10
      obtain ⟨rfl, rfl⟩ := ret_e hm
      exact zx_vret C rfl rfl rfl dX5_readMap_102
    · replace hm := in_e hm c10
      refine zx_iload_n C dX5_readMap_31 1 rfl ?_
      refine zx_bipush (v := 34) C dX5_readMap_32 (by decide) ?_
      refine zx_isub C dX5_readMap_34 ?_
      refine zx_topi (fun y11 hy11 => ?_)
      replace hm := ltb_e hm hy11
      refine zx_istore_n C [(2, .int (y11)), (0, .ref (x0)), (1, .int (x1))] dX5_readMap_35 rfl (by decide) rfl ?_
      refine zx_aload_n C dX5_readMap_36 1 rfl ?_
      refine zx_iconst (v := 1) C dX5_readMap_37 (by decide) ?_
      refine zx_iload_n C dX5_readMap_38 0 rfl ?_
      refine zx_bipush (v := 6) C dX5_readMap_39 (by decide) ?_
      refine zx_ishr C dX5_readMap_41 ?_
      obtain ⟨v12, ρ13, h14, hm⟩ := cll_e hm
      refine zx_callV (σ := σ) C [.int (1), .int ((y11) >>> (((6 : Int32)) &&& 31))] tC_5 k8 i9 Y_X5_word W_2_140 W_2_141 W_2_142 (c_X5_word h14) (by decide) (by decide) rfl (Nat.le_of_ble_eq_true rfl) dX5_readMap_42 rfl ?_
      refine zx_iload_n C dX5_readMap_45 0 rfl ?_
      refine zx_bipush (v := 63) C dX5_readMap_46 (by decide) ?_
      refine zx_iand C dX5_readMap_48 ?_
      refine zx_lushr C dX5_readMap_49 ?_
      refine zx_lconst (v := 1) C dX5_readMap_50 (by decide) ?_
      refine zx_land C dX5_readMap_51 ?_
      refine zx_lconst (v := 0) C dX5_readMap_52 (by decide) ?_
      refine zx_lcmp C dX5_readMap_53 ?_
      refine zx_if_eq C 61 dX5_readMap_54 (by decide) (fun c15 => ?_) (fun c15 => ?_)
      · replace hm := ip_e hm c15
        refine zx_iconst (v := 0) C dX5_readMap_61 (by decide) ?_
        exact zx_lv [1, 2] [(0, .ref (x0)), (1, .int (x1))] rfl (j_X5_readMap_62 C htab hin hrc23   hm)
      · replace hm := in_e hm c15
        refine zx_iconst (v := 1) C dX5_readMap_57 (by decide) ?_
        refine zx_goto C 62 dX5_readMap_58 (by decide) ?_
        exact zx_lv [1, 2] [(0, .ref (x0)), (1, .int (x1))] rfl (j_X5_readMap_62 C htab hin hrc23   hm)
set_option maxRecDepth 100000 in
set_option maxHeartbeats 1000000 in
theorem c_X5_readMap {l : Launch} {D : va_G} {aC : Nat → ClassId} {b0 fu : Nat} {a0 : Nat} {σ τ : tM} {v : Unit} (hm : m_X5_readMap b0 fu a0 σ = some (v, τ)) : tMt l D aC b0 yX5_readMap (Cond.code yX5_readMap cX5_readMap 4 none) 2 43 [.ref (a0)] σ (.inl none) τ := by
  unfold m_X5_readMap at hm
  obtain ⟨hg, hm⟩ := grw_e hm
  refine tMt_of (n := 0) rfl (Nat.le_of_ble_eq_true rfl) hg ?_
  intro p e s m below meth c C htab hin
  refine zx_lv [0] [(0, .ref (a0))] rfl ?_
  refine zx_aload_n C dX5_readMap_0 0 rfl ?_
  obtain ⟨k1, i2, hm⟩ := ckO_e hm
  obtain ⟨v3, ρ4, h5, hm⟩ := cll_e hm
  refine zx_callV (σ := σ) C [] tC_5 k1 i2 Y_X5_forgetMarks W_2_115 W_2_117 Wp_4 (c_X5_forgetMarks h5) (by decide) (by decide) rfl (Nat.le_of_ble_eq_true rfl) dX5_readMap_1 rfl ?_
  refine zx_aload_n C dX5_readMap_4 0 rfl ?_
  refine zx_iconst (v := 0) C dX5_readMap_5 (by decide) ?_
  obtain ⟨k6, i7, hm⟩ := ckO_e hm
  refine zx_put (j := 9) (ρ := sI (ρ4) (a0) 9 (0)) C tC_5 k6 i7 ⟨by decide, Or.inl W_1_107⟩ rfl rfl rfl (sI_ok (fun _ => rfl)) dX5_readMap_6 ?_
  refine zx_aload_n C dX5_readMap_9 0 rfl ?_
  refine zx_iconst (v := 0) C dX5_readMap_10 (by decide) ?_
  refine zx_put (j := 10) (ρ := sI (sI (ρ4) (a0) 9 (0)) (a0) 10 (0)) C tC_5 k6 i7 ⟨by decide, Or.inl W_1_110⟩ rfl rfl rfl (sI_ok (fun _ => rfl)) dX5_readMap_11 ?_
  refine zx_aload_n C dX5_readMap_14 0 rfl ?_
  refine zx_bipush (v := 34) C dX5_readMap_15 (by decide) ?_
  refine zx_put (j := 14) (ρ := sI (sI (sI (ρ4) (a0) 9 (0)) (a0) 10 (0)) (a0) 14 (34)) C tC_5 k6 i7 ⟨by decide, Or.inl W_1_117⟩ rfl rfl rfl (sI_ok (fun _ => rfl)) dX5_readMap_17 ?_
  refine zx_bipush (v := 34) C dX5_readMap_20 (by decide) ?_
  refine zx_istore_n C [(1, .int (34)), (0, .ref (a0))] dX5_readMap_22 rfl (by decide) rfl ?_
  exact zx_lv [1, 0] [(0, .ref (a0)), (1, .int (34))] rfl (l_X5_readMap_23 C htab hin  _ _ _ _ hm)
