/-! ===== PURE: call of the law: format ===== -/
section FML
variable {Φ : tPh} {b0 fu : Nat} {σ τ ρ : tM} {bi sp : Nat → Nat} {w : Nat → Nat × Nat} {A C C1 C2 C' X E : tS} {D D' D0 D1 : tD} {J : tJ} {mo z W : Nat → Nat} {l r m k c q n t N K eb ob : Nat} {L : Nat} {xs : Nat → Int32} {rc : Nat → Nat → Nat → Int32 → tM → Option (Int32 × tM)} {x4 : Int32}
theorem jr_c (hl : l < 1000000) (hc : ci C) (hu : 3000 ≤ fu) (h : CM b0 σ C D) (hd : dL D = dH D) (e0 : dP D 21 2 = none) : wp (FC b0) σ (m_X1_reset b0 fu (b0 + 20) (nI l) σ) (fun _ τ => ∃ D' a, CM b0 τ (jrC C l) D' ∧ (∀ o j, ¬ (o = 21 ∧ j = 2) → dP D' o j = dP D o j) ∧ dP D' 21 2 = some a ∧ (∀ j, j < 32 → dW D' a j = C 11 (64 + j)) ∧ (dL D' = dL D ∧ dH D' = dH D) ∧ dE D' ≤ dE D + 34 ∧ dO D' ≤ dO D + 2) := by
  refine wp_grw (FC_good b0) ?_
  rw [ckC_20 h.lay]
  refine wp_bind (FC_good b0) (jr1_c (fu := fu) hl hc hu h) (fun _ ρ q => ?_)
  have e11 : jrC C l 11 = C 11 := (jr_f (C := C) (l := l)).1 11 (by decide) (by decide) (by decide) (by decide) (by decide)
  have := jr2_c (fu := fu) q hd e0
  rw [e11] at this
  exact this
/-- words of the base behind it -/
theorem mW_bg (hn : ∀ j, j < 34 → j ≠ 2 → dP D 21 j = none) {a : Nat} (h2 : dP D 21 2 = some a) (hw : ∀ j, j < 32 → dW D a j = if j = 0 then 2 else 0) : ∀ q, q < 1088 → mW D 0 q = if q = 64 then 2 else 0 := fun q hq => by
  rw [rwD_mW]
  unfold rwD
  by_cases c : q / 32 = 2
  · rw [c, h2]
    show dW D a (q % 32) = _
    rw [hw _ (Nat.mod_lt _ (by omega))]
    by_cases d : q = 64
    · rw [if_pos d, if_pos (by omega)]
    · rw [if_neg d, if_neg (by omega)]
  · rw [hn _ (by omega) c, if_neg (by omega)]
theorem kpn_e (h : ∀ o j, o ≠ 21 → dP D' o j = dP D o j) : kpn D' = kpn D := by
  unfold kpn
  have e3 : dP D' 3 = dP D 3 := funext (fun j => h 3 j (by decide))
  have e8 : dP D' 8 = dP D 8 := funext (fun j => h 8 j (by decide))
  rw [e3, e8]
theorem begin_c (l1 : 40 ≤ l) (l2 : l ≤ 4096) (r1 : 16 ≤ r) (r2 : r ≤ 2000) (hc : ci C) (h8 : C 1 8 ≤ 6130) (hz : ∀ b, C 1 8 ≤ b → b < 6130 → C 2 b = 0 ∧ C 4 b = 0 ∧ C 5 b = 0) (h0 : ∀ q, q < 32 → C 11 q = 0) (hE : ∀ j, C 27 j = E 70 j ∧ C 29 j = E 62 j ∧ C 31 j = E 63 j) (hfu : ∀ n, dL D < n → n ≤ dH D → dT D 8 n < fu) (hf : dH D - dL D < fu) (hu : 7000 ≤ fu) (h : CM b0 σ C D) : wp (FC b0) σ (m_X10_begin b0 fu (b0 + 0) (nI l) (nI r) σ) (fun _ τ => ∃ C' D', CM b0 τ C' D' ∧ FMc l r E C' D' ∧ EL D D' 34 2) := by
  have L := h.lay
  have c7 := hc.1
  refine wp_grw (FC_good b0) ?_
  rw [ckC_0 L, osm_p (rfC_0_3 L), ckC_20 L]
  refine wp_bind (FC_good b0) (forget_c (fu := fu) h (by omega) hfu hf (by omega)) ?_
  rintro _ ρ1 ⟨D1, q1, g1, g2, ⟨g3, g4⟩, g5, g6⟩
  have en : (34 : Int32) + nI l + nI r = nI (34 + l + r) := by
    rw [show (34 : Int32) + nI l = nI (34 + l) from nI_add 34 l]
    exact nI_add (34 + l) r
  rw [ckC_0 q1.lay, osm_p (rfC_0_0 q1.lay), ckC_1 q1.lay, en]
  refine wp_bind (FC_good b0) (dkReset_c (fu := fu) (n := 34 + l + r) (by omega) h8 (by omega) q1) (fun _ ρ2 q2 => ?_)
  obtain ⟨d1, d2, d3⟩ := rsD_f C (C 1 8) (34 + l + r)
  have hc2 : ci (rsD C (C 1 8) (34 + l + r)) := ci_cong hc (fun q _ => by rw [d1 10 (by decide) (by decide) (by decide) (by decide)]) (d1 15 (by decide) (by decide) (by decide) (by decide)) (d1 16 (by decide) (by decide) (by decide) (by decide)) (d1 17 (by decide) (by decide) (by decide) (by decide))
  rw [ckC_0 q2.lay, osm_p (rfC_0_1 q2.lay), ckC_10 q2.lay]
  refine wp_bind (FC_good b0) (spReset_c (fu := fu) l2 (by omega) r2 hc2 (by omega) q2) ?_
  rintro _ ρ3 ⟨C2, q3, s2⟩
  have ci2 := S2_ci l2 r2 s2
  rw [ckC_0 q3.lay, osm_p (rfC_0_2 q3.lay), ckC_18 q3.lay]
  have su : wp (FC b0) ρ3 (m_X8_setUp b0 fu (b0 + 18) 0 2 0 ρ3) (fun _ τ => CM b0 τ (suC C2 0 2 0) D1) := setUp_c (fu := fu) (n := 0) (k := 2) (p := 0) q3 ci2 (by omega) (by omega) (by omega)
  refine wp_bind (FC_good b0) su (fun _ ρ4 q4 => ?_)
  rw [ckC_0 q4.lay, osm_p (rfC_0_3 q4.lay), ckC_20 q4.lay]
  refine wp_bind (FC_good b0) (jr_c (fu := fu) (l := l) (by omega) (ci_su ci2) (by omega) q4 (by rw [g3, g4]) (g2 2 (by omega))) ?_
  rintro _ ρ5 ⟨D3, a, q5, k1, k2, k3, ⟨k4, k5⟩, k6, k7⟩
  refine wp_mono (tail_c (fu := fu) (by omega) q5) (fun _ τ _ q6 => ?_)
  obtain ⟨W, w1, w2⟩ := gh_W q6
  have kp : kpn D3 = kpn D := by
    rw [kpn_e (D := D1) (fun o j ho => k1 o j (fun e => ho e.1)), kpn_e (D := D) (fun o j ho => g1 o j ho)]
  have u11 := (su_f (C := C2) (by have := s2.2.1.1; omega) (s2.2.2.2.2.1 2).1).2.1
  refine ⟨upR (C4f C2 l) 100 W, D3, CM_gh q6 w2, fm_of l2 r2 hz h0 hE s2 ⟨by rw [k4, g3], by rw [k5, g4]⟩ (mW_bg (fun j hj h2 => ?_) k2 (fun j hj => ?_)) w1, ?_⟩
  · rw [k1 21 j (fun e => h2 e.2)]
    exact g2 j (by omega)
  · rw [k3 j hj, u11]
    by_cases c : j = 0
    · rw [if_pos (by omega), if_pos c]
    · rw [if_neg (by omega), if_neg c, s2.2.2.1 _ (by omega), if_neg (by omega)]
  · unfold EL
    rw [kp]
    rw [g5] at k6
    rw [g6] at k7
    exact ⟨by omega, by omega⟩
/-- what the class holds beyond its blocks -/
theorem be_z (c : CM b0 σ C D) (st : ST (PH t) bi sp w C D A J) (hd : dsk A K) : C 1 8 = 34 + A 35 6 + A 35 7 ∧ ∀ b, C 1 8 ≤ b → b < 6130 → C 2 b = 0 ∧ C 4 b = 0 ∧ C 5 b = 0 := by
  have co := ST_co st
  obtain ⟨⟨r1, -⟩, -, -, r4, r5, r6⟩ := co.1
  have rg := co.2.2.2.2.2.2.1
  refine ⟨r1, fun b h1 h2 => ?_⟩
  rw [r1] at h1
  have g := rg.1 b (by omega)
  have w0 : A 39 b = 0 := by
    obtain ⟨g1, -, g3⟩ := g
    unfold rgP at g1
    by_cases c3 : A 39 b = 3
    · have := (g3 c3).2
      omega
    · omega
  have v0 : vsN A b = 0 := by
    unfold vsN
    refine cn_all0 _ _ (fun i _ hi => ?_)
    have := (hd.2.2.2.2.2.2 i (by omega)).1
    refine beq_eq_false_iff_ne.mpr (fun q => ?_)
    omega
  refine ⟨by rw [(r4 b h2).1, w0]; rfl, by rw [r5 b h2, v0], ?_⟩
  rw [r6 b h2]
  rcases st with q | q
  · exact q.2.2.2.2.2.2.2.2 b
  · have := q.2.2.2.1 b h2
    omega
theorem be_46 (st : ST (PH t) bi sp w C D A J) : ∀ b, 6200 ≤ b → A 46 b = 0 := fun b hb => by
  rcases st with q | q
  · exact q.2.2.2.2.2.2.2.2 b
  · exact q.2.2.2.2 b (by omega)
/-- between the calls, behind format -/
theorem bv_fg (ht : t ≤ 64) (l1 : 40 ≤ l) (l2 : l ≤ 4096) (r2 : r ≤ 2000) (h68 : ∀ b, 6200 ≤ b → A 68 b = 0) (h34 : A 35 34 ≤ 400 * t) (hN : N ≤ 5000 + 600 * t) : BV t (foA l r A) (foJ J (foA l r A)) N := by
  have z := fun q h => fo_z (q := q) l r A h
  have e6 := fo_6 l r A
  have e7 := fo_7 l r A
  have e34 := fo_34 l r A
  obtain ⟨o1, o2, o3, o4, o5, o6, o7⟩ := fo_rows l r A
  have rt := fo_RT l r A
  have r68 := o1 68 (by decide) (by decide) (by decide) (by decide) (by omega) (by decide) (by decide)
  generalize foA l r A = E at *
  have kk : ∀ d, d < 64 → nd E d 0 ≠ 1 ∧ nd E d 0 ≠ 3 := fun d hd => by
    rw [rt_nd rt hd (by omega)]
    split <;> omega
  have mz : ∀ b, b < 6200 → E 51 b = 0 ∧ E 52 b = 0 := fun b hb => (o2 b hb).2.2
  obtain ⟨t1, t2⟩ := mk_z mz
  refine ⟨⟨fun v hv => ?_, by rw [z 57 (by omega)]; exact Nat.zero_le _, fun b hb => by rw [r68]; exact h68 b hb⟩, ⟨?_, by rw [z 28 (by omega)]; exact Nat.zero_le _, by rw [e34]; exact h34, hN, by rw [t1]; exact Nat.zero_le _, by rw [t2]; exact Nat.zero_le _⟩, ⟨Nat.zero_le _, fun p q y => ?_⟩, fun _ => ⟨⟨fun h hh q => absurd (o6 h hh) q, fun n hn q => ?_⟩, fun n hn y => absurd (o4 n hn) y, by rw [gs_0 mz]; exact Nat.zero_le _, ?_⟩⟩
  · rw [o7 v hv]
    exact ⟨Nat.zero_le _, fun i hi => absurd hi (Nat.not_lt_zero _)⟩
  · unfold dsk
    rw [e6, e7, z 15 (by omega), z 16 (by omega), z 20 (by omega), z 21 (by omega)]
    exact ⟨l2, r2, by omega, by omega, by omega, by omega, fun i hi => by omega⟩
  · have y : p = 0 ∧ q = E 36 := y
    rw [y.2, nlc_q, cn_all0 64 0 (fun x _ hx => ?_)]
    · exact Nat.zero_le _
    · refine Bool.eq_false_iff.mpr (fun q => ?_)
      obtain ⟨q1, q2, -⟩ := nlq_iff.mp q
      have := kk x q1
      omega
  · have := kk n hn
    omega
  · rw [t1, t2]
    exact Nat.zero_le _
theorem law_196 (g1 : ∀ k : Option (Int32 × tM), ckI (x4 + 1) L k = k) (g2 : ∀ k : Option (Int32 × tM), ckI (x4 + 2) L k = k) (ht : t ≤ 63) (hu : 1200000 ≤ fu) (hI : INV b0 t σ eb ob) : ∃ ρ, J_L_law_196 b0 fu L xs rc (b0 + 0) (b0 + 35) (b0 + 73) x4 σ = J_L_law_2051 b0 fu L xs rc (b0 + 0) (b0 + 35) (b0 + 73) x4 ρ ∧ (tn σ ≤ tn ρ ∧ tu σ ≤ tu ρ) ∧ INV b0 (t + 1) ρ (eb + eT t) (ob + oT t) := by
  unfold J_L_law_196
  simp only [g1, g2]
  generalize xs (x4 + 1).toNatClampNeg = x
  generalize xs (x4 + 2).toNatClampNeg = y
  obtain ⟨C, D, A, J, N, bi, sp, w, i1, i2, i3, i4, i5, i6, i7⟩ := hI
  obtain ⟨n1, n2, n3, n4⟩ := bv_N ht i5
  have e34 : 34 ≤ eT t ∧ 2 ≤ oT t := by
    unfold eT oT
    omega
  have ho : okT (fmY x y A J).2.1 := by
    obtain ⟨v, τ, -, -, -, q⟩ := format_wp (fu := fu) (x := x) (y := y) i3 hu
    exact q.ok
  have key : wp (FC b0) σ (m_X10_format b0 fu (b0 + 0) x y σ) (fun v τ => v = iz (fmY x y A J).1 ∧ ∃ bi sp w C' D', CM b0 τ C' D' ∧ ST (PH (t + 1)) bi sp w C' D' (fmY x y A J).2.1 (fmY x y A J).2.2 ∧ EL D D' (eT t) (oT t)) ∧ BV (t + 1) (fmY x y A J).2.1 (fmY x y A J).2.2 N := by
    by_cases cb : x < 40 ∨ (4096 : Int32) < x ∨ y < 16 ∨ (2000 : Int32) < y
    · have e : fmY x y A J = (-9, (up2 A 35 0 0, J)) := if_pos cb
      rw [e]
      have b0' : BV (t + 1) (up2 A 35 0 0) J N := bv_suc (bv_sC i5 (sC_0 (v := 0)) (up2_rown (by decide)))
      refine ⟨?_, b0'⟩
      have ret : wp (FC b0) σ (some ((-9 : Int32), σ)) (fun v τ => v = iz (-9) ∧ ∃ bi sp w C' D', CM b0 τ C' D' ∧ ST (PH (t + 1)) bi sp w C' D' (up2 A 35 0 0) J ∧ EL D D' (eT t) (oT t)) := wp_ret ((FC_good b0).1 _) ⟨rfl, bi, sp, w, C, D, i2, ST_suc (ST_scr (PH_good t) PH_ok i4 sC_0), EL_le EL_r (Nat.zero_le _) (Nat.zero_le _)⟩
      refine wp_grw (FC_good b0) ?_
      unfold J_X10_format_26
      by_cases c1 : x < 40
      · rw [if_pos c1]
        exact ret
      rw [if_neg c1]
      by_cases c2 : (4096 : Int32) < x
      · rw [if_pos c2]
        exact ret
      rw [if_neg c2]
      by_cases c3 : y < 16
      · rw [if_pos c3]
        exact ret
      rw [if_neg c3]
      have c4 : (2000 : Int32) < y := by
        rcases cb with q | q | q | q
        · exact absurd q c1
        · exact absurd q c2
        · exact absurd q c3
        · exact q
      rw [if_neg (Int32.not_le.mpr c4)]
      exact ret
    · have c1 : ¬ x < 40 := fun q => cb (Or.inl q)
      have c2 : ¬ (4096 : Int32) < x := fun q => cb (Or.inr (Or.inl q))
      have c3 : ¬ y < 16 := fun q => cb (Or.inr (Or.inr (Or.inl q)))
      have c4 : ¬ (2000 : Int32) < y := fun q => cb (Or.inr (Or.inr (Or.inr q)))
      obtain ⟨l, hl, rfl⟩ := nI_of (x := x) (fun q => c1 (Int32.lt_of_lt_of_le q (by decide)))
      obtain ⟨r, hr, rfl⟩ := nI_of (x := y) (fun q => c3 (Int32.lt_of_lt_of_le q (by decide)))
      have l1 : 40 ≤ l := by
        rcases Nat.lt_or_ge l 40 with q | q
        · exact absurd ((nI_ltP (a := l) (b := 40) hl (by omega)).mpr q) c1
        · exact q
      have l2 : l ≤ 4096 := by
        rcases Nat.lt_or_ge 4096 l with q | q
        · exact absurd ((nI_ltP (a := 4096) (b := l) (by omega) hl).mpr q) c2
        · exact q
      have r1 : 16 ≤ r := by
        rcases Nat.lt_or_ge r 16 with q | q
        · exact absurd ((nI_ltP (a := r) (b := 16) hr (by omega)).mpr q) c3
        · exact q
      have r2 : r ≤ 2000 := by
        rcases Nat.lt_or_ge 2000 r with q | q
        · exact absurd ((nI_ltP (a := 2000) (b := r) (by omega) hr).mpr q) c4
        · exact q
      have e : fmY (nI l) (nI r) A J = (((34 + l + r : Nat) : Int), (foA l r A, foJ J (foA l r A))) := by
        unfold fmY
        rw [if_neg cb, nI_cl hl, nI_cl hr]
      rw [e] at ho ⊢
      have ho : okT (foA l r A) := ho
      have co := ST_co i4
      have hd := i5.2.1.1
      obtain ⟨b8, bz⟩ := be_z i2 i4 hd
      have jr := co.2.1
      have jo := jr.2.2.1
      have tp := ST_TP i4
      have o1 := (fo_rows l r A).1
      have bg := begin_c (E := foA l r A) (fu := fu) l1 l2 r1 r2 co.2.2.2.2.2.2.2.2.1.1 (by rw [b8]; have := hd.1; have := hd.2.1; omega) bz co.2.2.2.2.2.2.2.2.1.2.2.2 (fun j => by
        rw [o1 70 (by decide) (by decide) (by decide) (by decide) (by omega) (by decide) (by decide), o1 62 (by decide) (by decide) (by decide) (by decide) (by omega) (by decide) (by decide), o1 63 (by decide) (by decide) (by decide) (by decide) (by omega) (by decide) (by decide)]
        exact ⟨tp.2.1 j, tp.2.2.1.2.2.2 j, tp.2.2.2.2.2.2 j⟩) (fun n a b => by
        have := (jr.2.2.2.2.2 n a b).2.2.2.2.2.2.2.1
        omega) (by
        unfold JO at jo
        have := jr.2.1
        omega) (by omega) i2
      refine ⟨?_, bv_fg (t := t + 1) (by omega) l1 l2 r2 i5.1.2.2 (ar_s1 i5.2.1.2.2.1) (ar_s3 i5.2.1.2.2.2.1)⟩
      refine wp_grw (FC_good b0) ?_
      unfold J_X10_format_26
      rw [if_neg c1, if_neg c2, if_neg c3, if_pos (Int32.not_lt.mp c4), ckC_0 i2.lay]
      refine wp_bind (FC_good b0) bg ?_
      rintro _ ρ ⟨C', D', q1, q2, q3⟩
      have en : (34 : Int32) + nI l + nI r = nI (34 + l + r) := by
        rw [show (34 : Int32) + nI l = nI (34 + l) from nI_add 34 l]
        exact nI_add (34 + l) r
      have ro := fm_RO (t := t + 1) (J := J) l1 l2 r2 q2 ho (be_46 i4) co.2.2.1.2.2.2.2
      rw [en]
      exact wp_ret ((FC_good b0).1 _) ⟨(iz_n _).symm, z00, z00, w00, C', D', q1, Or.inl ro, EL_le q3 e34.1 e34.2⟩
  obtain ⟨ρ, e1, e2, e3, bi', sp', w', C', D', r2, r3, r4, r5⟩ := pl_w (Φ := PH (t + 1)) (mC := m_X10_format b0 fu (b0 + 0) x y σ) (mR := fun τ => m_X12_format b0 fu (b0 + 35) x y τ) (kk := fun ρ => J_L_law_2051 b0 fu L xs rc (b0 + 0) (b0 + 35) (b0 + 73) x4 ρ) (X := fmY x y A J) (e := eT t) (o := oT t) (N' := N) i1 i2 i3 key.1 (fun τ q => format_wp q hu)
  exact ⟨ρ, e1, e2, C', D', (fmY x y A J).2.1, (fmY x y A J).2.2, N, bi', sp', w', e3, r3, r2, r4, key.2, ar_k r5.1 i6, ar_k2 r5.2 i7⟩
end FML
