/-! ===== PURE: the journal's flush, in both ===== -/
/-- how a step ends that may fail -/
def RZ (Φ : tPh) (b0 : Nat) (bi sp : Nat → Nat) (w : Nat → Nat × Nat) (D : tD) (e o e' o' : Nat) (v : Unit ⊕ Unit) (τ : tM) (X : tP ⊕ tP) : Prop := match X with
  | .inl s => v = .inl () ∧ ∃ C' D', CM b0 τ C' D' ∧ RO Φ bi sp w C' D' s.1 s.2 ∧ EP D D' e o
  | .inr s => v = .inr () ∧ ∃ C' D', CM b0 τ C' D' ∧ OF Φ bi sp C' D' s.1 s.2 ∧ EP D D' e' o'
section FLC
variable {Φ : tPh} {b0 fu : Nat} {σ τ : tM} {bi sp : Nat → Nat} {w : Nat → Nat × Nat} {C C' : tS} {D D' : tD} {A B : tS} {J J' : tJ} {K : Nat}
theorem RZ_r {X : tS} {e o e' o' : Nat} (h : ∃ C' D', CM b0 τ C' D' ∧ OF Φ bi sp C' D' X J ∧ EP D D' e' o') : RZ Φ b0 bi sp w D e o e' o' (.inr ()) τ (.inr (X, J)) := ⟨rfl, h⟩
theorem RZ_l {X : tS} {e o e' o' : Nat} (h : ∃ C' D', CM b0 τ C' D' ∧ RO Φ bi sp w C' D' X J ∧ EP D D' e o) : RZ Φ b0 bi sp w D e o e' o' (.inl ()) τ (.inl (X, J)) := ⟨rfl, h⟩
theorem EP_same (h3 : dP D' 3 = dP D 3) (h8 : dP D' 8 = dP D 8) (hE : dE D' = dE D) (hO : dO D' = dO D) : EP D D' 0 0 := by
  have k : kpn D' = kpn D := by unfold kpn; rw [h3, h8]
  unfold EP
  rw [k, hE, hO]
  exact ⟨(Nat.add_zero _).symm, (Nat.add_zero _).symm⟩
theorem EP_z {D'' : tD} {n m : Nat} (h : EP D D' 0 0) (k : EP D' D'' n m) : EP D D'' n m := by
  have := EP_t h k
  rwa [Nat.zero_add, Nat.zero_add] at this
theorem txOk_of (h : JR sp C D A J) (hu : 3000 ≤ fu) {n : Nat} (n1 : dL D < n) (n2 : n ≤ dH D) : txOk fu D n := by
  obtain ⟨u1, u2, u3, u4, u5, u6⟩ := h
  obtain ⟨t1, t2, t3, t4, t5⟩ := u6 n n1 n2
  obtain ⟨o1, o2, o3, o4, o5, o6, o7, o8, o9, o10⟩ := u3
  refine ⟨?_, by omega, by omega, t4⟩
  rw [t1.2.2.1, t1.2.2.2.1]
  omega
theorem flush_c (hΦ : goodT Φ) (hok : ∀ w A, Φ w A → okT A) (h : CM b0 σ C D) (hR : RO Φ bi sp w C D A J) (hd : dsk A (K + 2)) (hu : 3000 ≤ fu) : wp (FC b0) σ (m_X1_flush b0 fu (b0 + 20) σ) (fun v τ => RZ Φ b0 bi sp w D 0 0 6 1 v τ (flushX A J)) := by
  have L := h.lay
  have hCO := hR.1
  have hSR := hR.2.1
  have h46 := hR.2.2.2.2.2.2.2.2
  have hnr := hR.2.2.2.2.2.2.2.1
  have h5 := hd.2.2.1
  have hJR := hCO.2.1
  have hJR0 := hJR
  obtain ⟨u1, u2, u3, u4, u5, u6⟩ := hJR
  have u30 := u3
  obtain ⟨o1, o2, o3, o4, o5, o6, o7, o8, o9, o10⟩ := u3
  obtain ⟨f1, f2, f3, f4, f5, f6, f7, f8⟩ := u1
  refine wp_grw (FC_good b0) ?_
  rw [ckC_20 L, osm_p (rfC_20_0 L), ckC_1 L]
  have fl := flushCache_c (fu := fu) (K := K + 1) h hCO.1 hd h46 hu
  unfold flushX
  by_cases e : A 35 19 = 1
  · have ex : fluX A = .inr (powA A) := if_pos e
    rw [ex] at fl ⊢
    refine wp_clx (FC_good b0) fl (fun v ρ q => by cases q.1) (fun ρ q => ?_)
    obtain ⟨-, C', D', q1, q2, q3, q4, q5⟩ := q
    show RZ Φ b0 bi sp w D 0 0 6 1 (.inr ()) ρ (.inr (powA A, J))
    exact RZ_r ⟨C', D', q1, OF_pow hΦ hok hCO hnr q2 q3 q4 h46, q5⟩
  · have ex : fluX A = .inl (fluA A) := if_neg e
    rw [ex] at fl ⊢
    refine wp_clx (FC_good b0) fl (fun v ρ q => ?_) (fun ρ q => by cases q.1)
    obtain ⟨-, C1, D1, q1, q2, q3, q4, q5⟩ := q
    show wp (FC b0) ρ _ (fun v τ => RZ Φ b0 bi sp w D 0 0 6 1 v τ (fl2_ (fgA (fl1 (fluA A)) J) (fgJ (fl1 (fluA A)) J)))
    have cC : ∀ p, 10 ≤ p → C1 p = C p := fun p hp => q3 p (by omega) (by omega) (by omega) (by omega) (by omega) (by omega) (by omega)
    have k12 : C1 20 12 = A 35 28 := by rw [cC 20 (by decide), f4]
    rw [ckC_20 q1.lay, cf_20_12 q1.ca, k12]
    have g1 : CM b0 (sI ρ (b0 + 20) 13 (nI (A 35 28))) (up2 C1 20 13 (A 35 28)) D1 := CM_fix (o := 20) q1 rfl rfl (by show _ < 2147483648; omega)
    have s1 := SR_disk hSR q3 (dk_flu h5)
    have s2 : SR bi w (up2 C1 20 13 (A 35 28)) (fluA A) := SR_oth s1 (fun p _ hp => up2_rown hp) (fun _ _ => rfl) (fun _ _ => rfl)
    have e13 : tI (sI ρ (b0 + 20) 13 (nI (A 35 28))) (b0 + 20) 13 = nI (A 35 28) := by rw [cf_20_13 g1.ca, up2_s]
    rw [osm_p (rfC_20_1 g1.lay), ckC_10 g1.lay, e13]
    refine wp_from (FC_good b0) (FC_sI q1.rf (by omega)) (wp_bind (FC_good b0) (freeRetired_c (fu := fu) (d := A 35 28) g1 ⟨s2.rk.1.1.1, s2.rk.1.1.2.1⟩ s2.rk.2.1 (by omega) hu) ?_)
    rintro _ ρ2 ⟨C3, g2, hf⟩
    have c3 : ∀ q, C3 20 q = up2 C1 20 13 (A 35 28) 20 q := fun q => hf.2.2 20 q (by decide) (by omega)
    have k15 : C3 20 15 = A 35 31 := by rw [c3, up2_j (by decide), cC 20 (by decide), f7]
    rw [ckC_20 g2.lay, cf_20_15 g2.ca, k15]
    have g3 : CM b0 (sI ρ2 (b0 + 20) 16 (nI (A 35 31))) (up2 C3 20 16 (A 35 31)) D1 := CM_fix (o := 20) g2 rfl rfl (by show _ < 2147483648; omega)
    have e16 : tI (sI ρ2 (b0 + 20) 16 (nI (A 35 31))) (b0 + 20) 16 = nI (A 35 31) := by rw [cf_20_16 g3.ca, up2_s]
    rw [e16]
    obtain ⟨⟨j1, j2, j3, j4, j5⟩, j6, j7⟩ := JP_KW q4
    have eL : dL D1 = A 35 35 := by rw [j4]; exact u2.1
    have eH : dH D1 = A 35 28 := by rw [j5]; exact u2.2
    have c9 : up2 C3 20 16 (A 35 31) 20 9 = szL J.1 0 (A 35 28 - A 35 35) := by rw [up2_j (by decide), c3, up2_j (by decide), cC 20 (by decide), u5]
    have sT : sTz D1 (dL D1) (A 35 31 - A 35 35) ≤ szL J.1 0 (A 35 28 - A 35 35) := by
      have gen : ∀ m k, k + m ≤ A 35 28 - A 35 35 → sTz D1 (dL D1 + k) m = szL J.1 k m := fun m => by
        induction m with
        | zero => exact fun _ _ => rfl
        | succ m ih =>
          intro k hk
          have t := (u6 (dL D + k + 1) (by omega) (by rw [u2.1, u2.2]; omega)).1.2.2.2.1
          rw [show dL D + k + 1 - A 35 35 - 1 = k by rw [u2.1]; omega] at t
          show dT D1 4 (dL D1 + k + 1) + sTz D1 (dL D1 + k + 1) m = J.1 39 k + szL J.1 (k + 1) m
          rw [j2, j4, t]
          have := ih (k + 1) (by omega)
          rw [j4] at this
          exact congrArg _ this
      have e1 := gen (A 35 31 - A 35 35) 0 (by omega)
      have e2 := szL_add J.1 (A 35 31 - A 35 35) 0 (A 35 28 - A 35 31)
      rw [Nat.zero_add, show A 35 31 - A 35 35 + (A 35 28 - A 35 31) = A 35 28 - A 35 35 by omega] at e2
      rw [Nat.add_zero] at e1
      omega
    have tx1 : ∀ n, dL D1 < n → n ≤ dL D1 + (A 35 31 - A 35 35) → txOk fu D1 n := fun n n1 n2 => by
      have := txOk_of (fu := fu) hJR0 hu (n := n) (by rw [← j4]; exact n1) (by rw [eL] at n2; rw [u2.2]; omega)
      unfold txOk at this ⊢
      rw [j2, j3]
      exact this
    refine wp_from (FC_good b0) (FC_sI g2.rf (by omega)) (wp_bind (FC_good b0) (fold_c (fu := fu) (x := A 35 31) (k := A 35 31 - A 35 35) g3 (by omega) (by rw [eL]; omega) (by rw [eL, eH]; omega) (by rw [c9]; exact sT) tx1 (by omega)) ?_)
    rintro _ ρ3 ⟨C5, D5, g5, hF⟩
    obtain ⟨R5, F, k14, k15'⟩ := RO_flu hΦ hok hR h5 q2 q3 q4 hf hF
    obtain ⟨⟨d1, d2, d3, d4, d5, d6, d7, d8, d9⟩, -⟩ := fd_fx _ _ _ _ _ hF (by rw [c9]; exact sT)
    have ep5 : EP D D5 0 0 := EP_z q5 (EP_same d6 d7 d8 d9)
    obtain ⟨i1, i2, i3, i4, i5⟩ := flu_all h5
    have kf := dk_flu h5
    have e1 : ∀ q, q ≤ 14 ∨ 22 ≤ q → fluA A 35 q = A 35 q := fun q hq => kf.2 q (by omega) (by omega) (by omega) (by omega) (by omega) (by omega)
    have a30 : fgA (fl1 (fluA A)) J 35 30 = A 35 30 := by rw [F 30 (by decide) (by decide) (by decide) (by decide), e1 30 (by omega)]
    have a31 : fgA (fl1 (fluA A)) J 35 31 = A 35 31 := by rw [F 31 (by decide) (by decide) (by decide) (by decide), e1 31 (by omega)]
    have d5' : dsk (fgA (fl1 (fluA A)) J) (K + 1) := by
      have dA : dsk (fluA A) (K + 1) := by
        obtain ⟨x1, x2, x3, x4, x5, x6, x7⟩ := hd
        refine ⟨by rw [e1 6 (by omega)]; exact x1, by rw [e1 7 (by omega)]; exact x2, i3, by rw [i2]; omega, ?_, ?_, fun i hi => by rw [i2] at hi; omega⟩
        · have : fluA A 35 20 = A 35 20 + 1 := by
            unfold fluA
            rw [up2_j (by decide), (koN_all (actA A 35 16) (actA A) (by rw [act_sD.2.2.2.2.2.1]; exact h5) rfl).2.2.2.1 20 (by decide) (by decide)]
            unfold actA
            rw [up2_s]
          omega
        · have : fluA A 35 21 = A 35 21 + 1 := by
            unfold fluA
            rw [up2_s, (koN_all (actA A 35 16) (actA A) (by rw [act_sD.2.2.2.2.2.1]; exact h5) rfl).2.2.2.1 21 (by decide) (by decide), actA_35 A 21 (by decide) (by decide)]
          omega
      obtain ⟨x1, x2, x3, x4, x5, x6, x7⟩ := dA
      refine ⟨by rw [F 6 (by decide) (by decide) (by decide) (by decide)]; exact x1, by rw [F 7 (by decide) (by decide) (by decide) (by decide)]; exact x2, by rw [F 15 (by decide) (by decide) (by decide) (by decide)]; exact x3, by rw [F 16 (by decide) (by decide) (by decide) (by decide)]; exact x4, by rw [F 20 (by decide) (by decide) (by decide) (by decide)]; exact x5, by rw [F 21 (by decide) (by decide) (by decide) (by decide)]; exact x6, fun i hi => ?_⟩
      rw [F 16 (by decide) (by decide) (by decide) (by decide), i2] at hi
      omega
    rw [ckC_20 g5.lay, cf_20_14 g5.ca, cf_20_15 g5.ca, k14, k15', if_l (by omega) (by omega)]
    unfold fl2_ J_X1_flush_73
    rw [a30, a31]
    by_cases c : A 35 30 ≤ A 35 31
    · rw [if_pos c, if_pos c]
      exact wp_ret ((FC_good b0).1 _) ⟨rfl, C5, D5, g5, R5, ep5⟩
    · rw [if_neg c, if_neg c]
      generalize hA3 : fgA (fl1 (fluA A)) J = A3 at R5 a30 a31 d5'
      generalize hJ3 : fgJ (fl1 (fluA A)) J = J3 at R5
      have g6 : CM b0 (sI ρ3 (b0 + 20) 15 (nI (A 35 30))) (up2 C5 20 15 (A 35 30)) D5 := CM_fix (o := 20) g5 rfl rfl (by show _ < 2147483648; omega)
      have e15 : tI (sI ρ3 (b0 + 20) 15 (nI (A 35 30))) (b0 + 20) 15 = nI (A 35 30) := by rw [cf_20_15 g6.ca, up2_s]
      -- the relation with the tail moved on
      obtain ⟨cO5, sr5, t5_, lc5, hc5, gh5, on5, nr5, z5⟩ := R5
      obtain ⟨r1, r2, r3, r4, r5, r6, r7, r8, r9, r10⟩ := cO5
      have b35 : ∀ q, q ≠ 31 → up2 A3 35 31 (A 35 30) 35 q = A3 35 q := fun q hq => up2_j hq
      have bo : ∀ o, o ≠ 35 → up2 A3 35 31 (A 35 30) o = A3 o := fun o ho => up2_rown ho
      have c20 : ∀ q, q ≠ 15 → up2 C5 20 15 (A 35 30) 20 q = C5 20 q := fun q hq => up2_j hq
      have cp : ∀ p, p ≠ 20 → up2 C5 20 15 (A 35 30) p = C5 p := fun p hp => up2_rown hp
      have sd : sD A3 (up2 A3 35 31 (A 35 30)) := ⟨bo _ (by decide), bo _ (by decide), bo _ (by decide), bo _ (by decide), bo _ (by decide), b35 _ (by decide), b35 _ (by decide)⟩
      have wb : ∀ k i, whB (up2 A3 35 31 (A 35 30)) J3 k i = whB A3 J3 k i := fun k i => by unfold whB; rw [b35 6 (by decide)]
      have CO6 : CO Φ bi sp (up2 C5 20 15 (A 35 30)) D5 (up2 A3 35 31 (A 35 30)) J3 := by
        refine ⟨DR_all r1 (fun p hp => cp p (by omega)) rfl rfl (fun _ _ _ _ _ _ => rfl) (fun o a b => bo o (by omega)) (fun q hq => b35 q (by omega)), ?_, ?_, CT_all hΦ r4 (fun q hq => b35 q (by omega)) (fun _ _ _ _ => rfl) hok (by have := r2.2.2.1; unfold JO at this; omega), ?_, ?_, ?_, ?_, ?_, TP_all r10 (fun p hp => cp p (by omega)) (fun o ho => bo o (by omega)) (b35 57 (by decide))⟩
        · obtain ⟨v1, v2, v3, v4, v5, v6⟩ := r2
          obtain ⟨x1, x2, x3, x4, x5, x6, x7, x8⟩ := v1
          refine ⟨?_, ?_, ?_, ?_, ?_, fun n n1 n2 => ?_⟩
          · unfold JF
            rw [c20 8 (by decide), c20 10 (by decide), c20 11 (by decide), c20 12 (by decide), c20 13 (by decide), c20 14 (by decide), c20 16 (by decide), up2_s, up2_s, b35 6 (by decide), b35 33 (by decide), b35 46 (by decide), b35 28 (by decide), b35 29 (by decide), b35 30 (by decide), b35 32 (by decide)]
            exact ⟨x1, x2, x3, x4, x5, x6, rfl, x8⟩
          · rw [b35 35 (by decide), b35 28 (by decide)]
            exact v2
          · unfold JO at v3 ⊢
            rw [up2_s, b35 6 (by decide), b35 7 (by decide), b35 28 (by decide), b35 29 (by decide), b35 30 (by decide), b35 32 (by decide), b35 35 (by decide)]
            omega
          · unfold JG
            rw [b35 6 (by decide), b35 28 (by decide), b35 33 (by decide), b35 35 (by decide), b35 46 (by decide)]
            exact v4
          · rw [c20 9 (by decide), b35 28 (by decide), b35 35 (by decide)]
            exact v5
          · have t := v6 n n1 n2
            have nb : ∀ c, nbA (up2 A3 35 31 (A 35 30)) c = nbA A3 c := fun c => by unfold nbA; rw [b35 6 (by decide)]
            unfold TR at t ⊢
            rw [b35 35 (by decide), b35 6 (by decide), b35 7 (by decide)]
            exact ⟨t.1, fun i hi => by rw [nb]; exact t.2.1 i hi, fun i hi => by rw [nb]; exact t.2.2.1 i hi, t.2.2.2⟩
        · unfold JL
          rw [b35 6 (by decide), b35 7 (by decide)]
          exact r3
        · exact LGd_dk r5 (fun q hq => b35 q (by omega)) (fun k i _ _ x => ⟨NV_sD sd x, cur_sD sd⟩)
        · have := AV_sD sd r6
          unfold HDd
          rw [b35 35 (by decide), b35 28 (by decide)]
          exact this
        · have := AV_sD sd r7
          unfold RG
          rw [b35 6 (by decide), b35 7 (by decide), b35 34 (by decide)]
          exact this
        · unfold SPJ
          rw [c20 17 (by decide), b35 34 (by decide)]
          exact r8
        · obtain ⟨m1, m2, m3, m4⟩ := r9
          unfold MI
          rw [cp 10 (by decide), cp 11 (by decide), b35 6 (by decide), b35 7 (by decide), b35 34 (by decide)]
          exact ⟨ci_cong m1 (fun q _ => by rw [cp 10 (by decide)]) (cp 15 (by decide)) (cp 16 (by decide)) (cp 17 (by decide)), m2, m3, m4⟩
      have sr6 : SR bi w (up2 C5 20 15 (A 35 30)) (up2 A3 35 31 (A 35 30)) := SR_oth sr5 (fun p _ hp => cp p hp) (fun o ho => bo o (by omega)) (fun q hq => b35 q (by omega))
      have d6 : dsk (up2 A3 35 31 (A 35 30)) (K + 1) := by
        obtain ⟨x1, x2, x3, x4, x5, x6, x7⟩ := d5'
        refine ⟨by rw [b35 6 (by decide)]; exact x1, by rw [b35 7 (by decide)]; exact x2, by rw [b35 15 (by decide)]; exact x3, by rw [b35 16 (by decide)]; exact x4, by rw [b35 20 (by decide)]; exact x5, by rw [b35 21 (by decide)]; exact x6, fun i hi => ?_⟩
        rw [b35 16 (by decide)] at hi
        unfold slOk
        rw [b35 15 (by decide), bo 42 (by decide), bo 43 (by decide), b35 6 (by decide), b35 7 (by decide)]
        exact x7 i hi
      have z6 : ∀ b, up2 A3 35 31 (A 35 30) 46 b = 0 := fun b => by rw [bo 46 (by decide)]; exact z5 b
      have nr6 : J3.2.1 = up2 A3 35 31 (A 35 30) 35 28 - up2 A3 35 31 (A 35 30) 35 35 := by rw [b35 28 (by decide), b35 35 (by decide)]; exact nr5
      rw [osm_p (rfC_20_0 g6.lay), ckC_1 g6.lay, e15]
      have pu := put_c (fu := fu) (K := K) (b := 0) (wh := 1) (id := A 35 30) g6 CO6.1 d6 z6 (by rw [b35 6 (by decide), b35 7 (by decide)]; omega) (by show A 35 30 < 2147483648; omega) hu
      have tg : tgA bi sp 1 (A 35 30) = A 35 30 := rfl
      rw [tg] at pu
      refine wp_from (FC_good b0) (σ1 := sI ρ3 (b0 + 20) 15 (nI (A 35 30))) (FC_sI g5.rf (by omega)) ?_
      show wp (FC b0) _ (clx (m_X0_put b0 fu (b0 + 1) (nI 0) (nI (A 35 30)) _) _) _
      by_cases e2 : up2 A3 35 31 (A 35 30) 35 19 = 1
      · have ex2 : verX (up2 A3 35 31 (A 35 30)) 0 1 (A 35 30) = .inr (powA (up2 A3 35 31 (A 35 30))) := if_pos e2
        rw [ex2] at pu ⊢
        refine wp_clx (FC_good b0) pu (fun v ρ q => by cases q.1) (fun ρ q => ?_)
        obtain ⟨-, C7, D7, t1, t2, t3, t4, t5⟩ := q
        show RZ Φ b0 bi sp w D 0 0 6 1 (.inr ()) ρ (.inr (powA (up2 A3 35 31 (A 35 30)), J3))
        exact RZ_r ⟨C7, D7, t1, OF_pow hΦ hok CO6 nr6 t2 t3 t4 z6, EP_z ep5 t5⟩
      · have ex2 : verX (up2 A3 35 31 (A 35 30)) 0 1 (A 35 30) = .inl (verA (up2 A3 35 31 (A 35 30)) 0 1 (A 35 30)) := if_neg e2
        rw [ex2] at pu ⊢
        refine wp_clx (FC_good b0) pu (fun v ρ q => ?_) (fun ρ q => by cases q.1)
        obtain ⟨-, C7, D7, t1, t2, t3, t4, t5⟩ := q
        have pn : pnd 1 (nxS (up2 A3 35 31 (A 35 30))) = 256 := rfl
        rw [pn] at t2
        refine wp_ret ((FC_good b0).1 _) ⟨rfl, C7, D7, t1, ?_, EP_z ep5 t5⟩
        generalize hA6 : up2 A3 35 31 (A 35 30) = A6 at *
        have JO6 := CO6.2.1.2.2.1
        have a6 : A6 35 31 = A 35 30 := by rw [← hA6, up2_s]
        have kv := dk_ver (A := A6) (b := 0) (wh := 1) (id := A 35 30)
        have ev : ∀ q, q ≤ 14 ∨ 22 ≤ q → verA A6 0 1 (A 35 30) 35 q = A6 35 q := fun q hq => kv.2 q (by omega) (by omega) (by omega) (by omega) (by omega) (by omega)
        have nw : ∀ k i, whB A6 J3 k i ≠ 0 := fun k i => by unfold whB; omega
        show RO Φ bi sp w C7 D7 (verA A6 0 1 (A 35 30)) J3
        refine ⟨CO_ver hΦ hok CO6 d6 t2 t3 t4 (fun k i _ _ => nw k i) (fun _ => ⟨rfl, ?_, ?_⟩) (Or.inl ⟨rfl, by omega⟩) (fun e => by cases e) (fun e => by cases e), SR_disk sr6 t3 kv, ?_, ?_, ?_, ?_, ?_, ?_, ?_⟩
        · unfold JO at JO6
          omega
        · unfold JO at JO6
          omega
        · refine hΦ w A3 _ ?_ ?_ t5_
          · rw [kv.1 36 (by decide) (by decide)]
            exact bo 36 (by decide)
          · rw [ev 7 (by omega)]
            exact b35 7 (by decide)
        · intro k i k1 k2
          rw [ev 28 (by omega), ev 35 (by omega), b35 28 (by decide), b35 35 (by decide)] at k1
          have wv : whB (verA A6 0 1 (A 35 30)) J3 k i = whB A6 J3 k i := by unfold whB; rw [ev 6 (by omega)]
          rw [wv, cur_ver d6, if_neg (fun y => nw k i y.symm), cur_sD sd, wb]
          exact lc5 k i k1 k2
        · left
          rw [cur_ver d6, if_pos rfl, ev 31 (by omega), a6]
        · intro q hq
          have c100 : C7 100 = C5 100 := by rw [t3 100 (by decide) (by decide) (by decide) (by decide) (by decide) (by decide) (by decide), cp 100 (by decide)]
          rw [c100, gh5 q hq, ev 28 (by omega), ev 35 (by omega), b35 28 (by decide), b35 35 (by decide), mW_JP t4 (by omega) _ (by rw [r2.2.1.1, r2.2.1.2]; exact Nat.le_refl _)]
        · have : verA A6 0 1 (A 35 30) 35 18 = A6 35 18 := verA_35 A6 0 1 (A 35 30) 18 (by decide) (by decide) (by decide) (by decide)
          rw [this, b35 18 (by decide)]
          exact on5
        · rw [ev 28 (by omega), ev 35 (by omega)]
          exact nr6
        · intro b
          have : verA A6 0 1 (A 35 30) 46 b = A6 46 b := verA_o A6 0 1 (A 35 30) b (by decide) (by decide)
          rw [this]
          exact z6 b
end FLC
