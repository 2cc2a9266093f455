/-! ===== PURE: call of the law: recover, its end ===== -/
section RCW
variable {Φ : tPh} {b0 fu : Nat} {σ τ : tM} {bi sp : Nat → Nat} {w : Nat → Nat × Nat} {C : tS} {D D' : tD} {A B E : tS} {J J' : tJ} {K t un n N N' e o eb ob v fr to : Nat} {s : Nat → Nat} {L : Nat} {xs : Nat → Int32} {rc : Nat → Nat → Nat → Int32 → tM → Option (Int32 × tM)} {x4 : Int32}
theorem rec_k (ht : t ≤ 63) (hu : 1200000 ≤ fu) (i2 : CM b0 σ C D) (i4 : ST (PH t) bi sp w C D A J) (i5 : BV t A J N) (hK : ∀ p s s', J.2.2.2 p s → J.2.2.2 p s' → s = s') : ∃ s0, wp (FC b0) σ (m_X10_recover b0 fu (b0 + 0) σ) (fun v τ => OUT (PH (t + 1)) b0 D (eT t) (oT t) v τ (rvY A J s0)) ∧ (A 35 18 = 0 → rcOk (up2 A 35 0 0) J s0) ∧ BV (t + 1) (rvY A J s0).2.1 (rvY A J s0).2.2 N := by
  obtain ⟨n1, n2, n3, n4⟩ := bv_N ht i5
  have bv' := bv_sC i5 (sC_0 (v := 0)) (up2_rown (by decide))
  rcases i4 with q | q
  · have on : A 35 18 = 1 := q.2.2.2.2.2.2.1
    have ey : rvY A J (fun _ => 0) = (-9, (up2 A 35 0 0, J)) := by
      unfold rvY
      rw [if_pos (by omega)]
    refine ⟨fun _ => 0, ?_, ⟨fun off => absurd off (by omega), ?_⟩⟩
    · rw [ey]
      have L := i2.lay
      have c14 : C 1 14 = A 35 18 := q.1.1.1.2.2.2.2.2.2
      refine wp_grw (FC_good b0) ?_
      rw [ckC_0 L, osm_p (rfC_0_0 L), ckC_1 L, cf_1_14 i2.ca, c14, on, if_neg (show ¬ nI 1 = (0 : Int32) by decide)]
      exact wp_ret ((FC_good b0).1 _) ⟨bi, sp, w, C, D, i2, ST_suc (Or.inl (RO_scr (PH_good t) PH_ok q sC_0)), EL_le EL_r (Nat.zero_le _) (Nat.zero_le _), Or.inl ⟨rfl, show up2 A 35 0 0 35 0 = 0 from up2_s A 35 0 0⟩⟩
    · rw [ey]
      exact bv_suc bv'
  · have off : A 35 18 = 0 := q.2.1
    have q' := OF_scr (PH_good t) PH_ok q (sC_0 (A := A) (v := 0))
    have m28 : up2 A 35 0 0 35 28 ≤ 63 := by
      rw [up2_j (by decide)]
      exact n3
    have m34 : up2 A 35 0 0 35 34 < 1000000 := by
      rw [up2_j (by decide)]
      omega
    have z0 : up2 A 35 0 0 35 0 = 0 := up2_s _ _ _ _
    obtain ⟨fr, hfr⟩ : ∃ fr, fr = rvF (rv1 (up2 A 35 0 0)) := ⟨_, rfl⟩
    obtain ⟨to, hto⟩ : ∃ to, to = up2 A 35 0 0 35 35 + rvT (rv1 (up2 A 35 0 0)) J (fr - up2 A 35 0 0 35 35) := ⟨_, rfl⟩
    have dk : dsk (up2 A 35 0 0) (0 + 6210) := dsk_le bv'.2.1.1 (by omega)
    obtain ⟨g1, g2, g3, g4⟩ := rv_rng (PH_good t) PH_ok i2 q' dk
    rw [← hfr] at g1 g2 g3 g4
    rw [← hto] at g2 g3 g4
    obtain ⟨s0, w0, k1, -⟩ := q'.1.2.2.2.1 to g3 g4
    have rk := rc_ok (K := 0) i2 q' dk bv'.1.2.2 m28 hK hfr hto k1 m34
    have rcv := recover_c (fu := fu) (K := 0) (s := s0) (by omega) i2 q' (dsk_le dk (by omega)) hK hfr hto k1 m34
    cases eX : rvX (rv1 (up2 A 35 0 0)) J fr to with
    | inl B =>
      have ey := rvY_l (s := s0) off hfr hto eX
      have bb : BV (t + 1) (udA B to (udE B J to) s0) (udJ J s0) N ∧ udA B to (udE B J to) s0 35 0 = up2 A 35 0 0 35 0 := by
        obtain ⟨v, τ, -, -, y⟩ := rcv
        rcases y with ⟨B', e1, -, -, hS, w2, C2, D2, -, ro, -⟩ | ⟨B', e1, -⟩
        · rw [eX] at e1
          have e1 : B = B' := by injection e1
          rw [← e1] at hS ro
          exact bv_rl ht bv' eX g4 k1 hS (jo_6 ro).1
        · rw [eX] at e1
          cases e1
      refine ⟨s0, ?_, fun _ => rk, by rw [ey]; dsimp only; exact bb.1⟩
      rw [ey]
      refine wp_mono rcv (fun v τ _ y => ?_)
      rcases y with ⟨B', e1, ev, -, -, w2, C2, D2, c2, ro, el, -⟩ | ⟨B', e1, -⟩
      · rw [eX] at e1
        have e1 : B = B' := by injection e1
        rw [← e1] at ro
        have f0 := bb.2
        rw [z0] at f0
        have ev2 : v = .inl (iz ((to - fr : Nat) : Int)) := by
          rw [ev, iz_n, nI_sb g2]
        clear bb rcv rk ey
        generalize udA B to (udE B J to) s0 = E at *
        exact ⟨bi, sp, w2, C2, D2, c2, ST_suc (Or.inl ro), EL_le el (Nat.zero_le _) (Nat.zero_le _), Or.inl ⟨ev2, f0⟩⟩
      · rw [eX] at e1
        cases e1
    | inr B =>
      have ey := rvY_r (s := s0) off hfr hto eX
      have ob : B 35 18 = 0 := by
        obtain ⟨v, τ, -, -, y⟩ := rcv
        rcases y with ⟨B', e1, -⟩ | ⟨B', e1, -, C2, D2, -, ro, -⟩
        · rw [eX] at e1
          cases e1
        · rw [eX] at e1
          have e1 : B = B' := by injection e1
          rw [e1]
          exact ro.2.1
      refine ⟨s0, ?_, fun _ => rk, by rw [ey]; exact bv_rr ht bv' eX ob⟩
      rw [ey]
      refine wp_mono rcv (fun v τ _ y => ?_)
      rcases y with ⟨B', e1, -⟩ | ⟨B', e1, ev, C2, D2, c2, ro, el⟩
      · rw [eX] at e1
        cases e1
      · rw [eX] at e1
        have e1 : B = B' := by injection e1
        rw [← e1] at ro
        exact ⟨bi, sp, fun _ => (0, 0), C2, D2, c2, ST_suc (w := fun _ => (0, 0)) (Or.inr (OF_scr (PH_good t) PH_ok ro sC_0)), EL_le el (eT_6 t).1 (eT_6 t).2, Or.inr ⟨ev, show up2 B 35 0 1 35 0 = 1 from up2_s B 35 0 1⟩⟩
theorem law_1957 (ht : t ≤ 63) (hu : 1200000 ≤ fu) (hI : INV b0 t σ eb ob) : ∃ ρ, J_L_law_1957 b0 fu L xs rc (b0 + 0) (b0 + 35) (b0 + 73) x4 σ = J_L_law_1998 b0 fu L xs rc (b0 + 0) (b0 + 35) (b0 + 73) x4 ρ ∧ (tn σ ≤ tn ρ ∧ tu σ ≤ tu ρ) ∧ INV b0 (t + 1) ρ (eb + eT t) (ob + oT t) := by
  unfold J_L_law_1957 m_L_recover
  obtain ⟨C, D, A, J, N, bi, sp, w, i1, i2, i3, i4, i5, i6, i7⟩ := hI
  obtain ⟨n1, n2, n3, n4⟩ := bv_N ht i5
  have nn := i5.2.1.2.2.2.1
  obtain ⟨N2, m1, m2, m3, m4⟩ : ∃ N2, N ≤ N2 ∧ 4000 ≤ N2 ∧ N2 ≤ 5000 + 600 * t ∧ N2 ≤ 42800 := ⟨if N ≤ 4000 then 4000 else N, by split <;> omega, by split <;> omega, by split <;> omega, by split <;> omega⟩
  have hm := RM_le i3 m1
  obtain ⟨s0, k1, k2, k3⟩ := rec_k ht hu i2 i4 (bv_M i5 m3) (RM_fun i3)
  obtain ⟨ρ, e1, e2, e3, un, s, bi', sp', w', C', D', r1, r2, r3, r4, r5⟩ := op_w (fu := fu) (mC := m_X10_recover b0 fu (b0 + 0) σ) (mR := fun τ => m_X12_recover b0 fu (b0 + 35) τ) (kk := fun ρ => J_L_law_1998 b0 fu L xs rc (b0 + 0) (b0 + 35) (b0 + 73) x4 ρ) (X := fun _ _ => rvY A J s0) (Φ := PH (t + 1)) (e := eT t) (o := oT t) (N' := N2 + 128) i1 i2 hm (fun un hun => wp_mono k1 (fun v τ _ q s => q)) (fun τ q => wp_mono (recover_wp (s := s0) q k2 m2 (by omega) hu) (fun v τ' _ z => ⟨0, 0, Nat.zero_le _, z.1, z.2⟩))
  exact ⟨ρ, e1, e2, C', D', (rvY A J s0).2.1, (rvY A J s0).2.2, N2 + 128, bi', sp', w', e3, r3, r2, r4, bv_M k3 (by omega), ar_k r5.1 i6, ar_k2 r5.2 i7⟩
end RCW
