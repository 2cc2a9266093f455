/-! ===== PURE: call of the law: recover ===== -/
section RCL
variable {Φ : tPh} {b0 fu : Nat} {σ τ : tM} {bi sp : Nat → Nat} {w : Nat → Nat × Nat} {C : tS} {D D' : tD} {A B E : tS} {J J' : tJ} {K t un n N N' e o eb ob v fr to : Nat} {s : Nat → Nat} {L : Nat} {xs : Nat → Int32} {rc : Nat → Nat → Nat → Int32 → tM → Option (Int32 × tM)} {x4 : Int32}
theorem RM_fun (h : RM b0 J σ A N) : ∀ p s s', J.2.2.2 p s → J.2.2.2 p s' → s = s' := fun p s s' h1 h2 => by
  obtain ⟨-, -, ad, ln, U, un, -, -, -, -, -, hm⟩ := h
  rw [← (hm p s h1).2, ← (hm p s' h2).2]
theorem ver_19 (h : A 35 19 = 1) : verA A 0 1 to 35 19 = 1 := by
  have a : actA A 35 19 = 1 := by
    unfold actA
    rw [up2_j (by decide), if_neg (by omega)]
    exact h
  unfold verA
  rw [ve1_35 _ _ _ _ _ 19 (by decide)]
  unfold ve2
  split
  · rw [koA_35 _ 19 (by decide) (by decide)]
    exact a
  · exact a
theorem rc_ok (h : CM b0 σ C D) (hO : OF (PH t) bi sp C D A J) (hd : dsk A (K + 6210)) (h68 : ∀ b, 6200 ≤ b → A 68 b = 0) (h28 : A 35 28 ≤ 63) (hK : ∀ p s s', J.2.2.2 p s → J.2.2.2 p s' → s = s') (hfr : fr = rvF (rv1 A)) (hto : to = A 35 35 + rvT (rv1 A) J (fr - A 35 35)) (hs : J.2.2.2 (udC A J to) s) (h34 : A 35 34 < 1000000) : rcOk A J s := by
  have e : ∀ q, q ≠ 16 → q ≠ 18 → rv1 A 35 q = A 35 q := fun q a b => by rw [rv1_35, if_neg b, if_neg a]
  obtain ⟨n1, n2, n3, n4⟩ := rv_rng (PH_good t) PH_ok h hO hd
  rw [← hfr] at n1 n2 n3 n4
  rw [← hto] at n2 n3 n4
  have jo := hO.1.2.1.2.2.1
  unfold JO at jo
  have jl := hO.1.2.2.1
  obtain ⟨l1, l2, l3, l4, l5⟩ := jl
  have un := hO.2.2.1
  have nr : J.2.1 ≤ 64 := by
    rcases un with q | q
    · omega
    · have := q.1
      omega
  have d1 : dsk (rv1 A) (K + 6210) := by
    obtain ⟨x1, x2, x3, x4, x5, x6, x7⟩ := hd
    unfold dsk
    rw [e 6 (by decide) (by decide), e 7 (by decide) (by decide), e 15 (by decide) (by decide), e 20 (by decide) (by decide), e 21 (by decide) (by decide), rv1_35 16, if_neg (by decide), if_pos rfl]
    exact ⟨x1, x2, x3, by omega, x5, x6, fun i hi => by omega⟩
  have o2 : ∀ o, o ≠ 69 → rv2 (rv1 A) J fr to o = rv1 A o := fun o ho => by
    funext j
    unfold rv2
    rw [byN_o ho, fl_row ho]
  have d2 : dsk (rv2 (rv1 A) J fr to) (K + 6210) := dsk_cg d1 (fun q _ => by rw [o2 35 (by decide)]) (o2 42 (by decide)) (o2 43 (by decide))
  have bk : blk (rv1 A) = 34 + A 35 6 + A 35 7 := by
    unfold blk
    rw [e 6 (by decide) (by decide), e 7 (by decide) (by decide)]
  unfold rcOk
  dsimp only
  rw [e 35 (by decide) (by decide), e 6 (by decide) (by decide), ← hfr, ← hto]
  refine ⟨dsk_le hd (Nat.zero_le _), h68, ⟨by omega, by omega⟩, by omega, by omega, fun k hk => by have := l4 k hk; omega, n1, by omega, l2, fun q hq => by have := l3 q hq; omega, dsk_le d2 (by omega), fun B eB => ?_⟩
  have dB : dsk B 5 := byX_dsk _ _ _ _ (dsk_le d2 (by omega)) (by rw [o2 35 (by decide), e 6 (by decide) (by decide), e 7 (by decide) (by decide), bk]; omega) eB
  refine ⟨dsk_le dB (by omega), fun Y eY => ?_⟩
  have eY2 : Y = fluA B := by
    unfold fluX at eY
    split at eY
    · cases eY
    · cases eY
      rfl
  have dY : dsk Y 4 := by
    rw [eY2]
    exact dsk_flu dB
  refine ⟨dsk_le dY (by omega), by omega, dsk_le (dsk_ver (K := 3) dY (by omega) (fun q => by omega)) (by omega), fun Z eZ => ?_⟩
  have c19 : ¬ Y 35 19 = 1 := fun c => by
    have : fluX (verA Y 0 1 to) = .inr (powA (verA Y 0 1 to)) := if_pos (ver_19 c)
    rw [this] at eZ
    cases eZ
  have eR : rvX (rv1 A) J fr to = .inl Z := by
    unfold rvX rv3
    rw [eB]
    show bX (fluX B) (fun B => bX (verX B 0 1 to) (fun C => fluX C)) = .inl Z
    rw [eY]
    show bX (verX Y 0 1 to) (fun C => fluX C) = .inl Z
    have : verX Y 0 1 to = .inl (verA Y 0 1 to) := if_neg c19
    rw [this]
    exact eZ
  obtain ⟨-, hf⟩ := rvX_hd (K := K) (dsk_le hd (by omega)) eR
  have uc : udC Z J to = udC A J to := by
    unfold udC
    rw [hf 35 (by omega)]
  obtain ⟨v, τ, -, -, y⟩ := recover_c (fu := 5000) (K := K) (s := s) (by omega) h hO (dsk_le hd (by omega)) hK hfr hto hs h34
  rcases y with ⟨B', e1, -, mf, -⟩ | ⟨B', e1, -⟩
  · rw [eR] at e1
    have e1 : Z = B' := by injection e1
    rw [← e1] at mf
    refine ⟨⟨by rw [hf 6 (by omega)]; omega, by rw [hf 6 (by omega)]; omega⟩, by rw [hf 7 (by omega)]; omega, by rw [hf 35 (by omega)]; omega, by rw [hf 35 (by omega)]; omega, by omega, fun k hk => by have := l4 k hk; omega, by rw [uc]; exact hs, mf⟩
  · rw [eR] at e1
    cases e1
theorem rvY_l (off : A 35 18 = 0) (hfr : fr = rvF (rv1 (up2 A 35 0 0))) (hto : to = up2 A 35 0 0 35 35 + rvT (rv1 (up2 A 35 0 0)) J (fr - up2 A 35 0 0 35 35)) (h : rvX (rv1 (up2 A 35 0 0)) J fr to = .inl B) : rvY A J s = (((to - fr : Nat) : Int), (udA B to (udE B J to) s, udJ J s)) := by
  have e35 : rv1 (up2 A 35 0 0) 35 35 = up2 A 35 0 0 35 35 := by rw [rv1_35]; rfl
  unfold rvY
  rw [if_neg (fun r => r off), e35, ← hfr, ← hto, h]
theorem rvY_r (off : A 35 18 = 0) (hfr : fr = rvF (rv1 (up2 A 35 0 0))) (hto : to = up2 A 35 0 0 35 35 + rvT (rv1 (up2 A 35 0 0)) J (fr - up2 A 35 0 0 35 35)) (h : rvX (rv1 (up2 A 35 0 0)) J fr to = .inr B) : rvY A J s = (0, (up2 B 35 0 1, J)) := by
  have e35 : rv1 (up2 A 35 0 0) 35 35 = up2 A 35 0 0 35 35 := by rw [rv1_35]; rfl
  unfold rvY
  rw [if_neg (fun r => r off), e35, ← hfr, ← hto, h]
/-- another bound of what is used -/
theorem bv_M (h : BV t A J N) (hN : N' ≤ 5000 + 600 * t) : BV t A J N' := ⟨h.1, ⟨h.2.1.1, h.2.1.2.1, h.2.1.2.2.1, hN, h.2.1.2.2.2.2⟩, h.2.2⟩
/-- between the calls, behind a recovery that power cut -/
theorem bv_rr (ht : t ≤ 63) (bv : BV t A J N) (hX : rvX (rv1 A) J fr to = .inr B) (off : B 35 18 = 0) : BV (t + 1) (up2 B 35 0 1) J N := by
  obtain ⟨⟨b1, b2, b3⟩, ⟨b4, b5, b6, b7, i5, i6⟩, b8, b10⟩ := bv
  obtain ⟨x1, x2, x3, x4⟩ := rvX_x (K := 10000000 * (65 - (t + 1))) (dsk_le b4 (by omega)) b3 hX
  rw [oX_r] at x1 x2 x3 x4
  have r : ∀ o, o ≠ 35 → o ≠ 49 → o ≠ 68 → o ≠ 69 → (o < 39 ∨ 46 < o) → up2 B 35 0 1 o = A o := fun o h1 h2 h3 h4 h5 => by rw [up2_rown h1, x2 o h1 h2 h3 h4 h5]
  have t1 : tcA (up2 B 35 0 1) = tcA A := by
    unfold tcA
    rw [r 51 (by decide) (by decide) (by decide) (by decide) (by omega)]
  have t2 : rcA (up2 B 35 0 1) = rcA A := by
    unfold rcA
    rw [r 52 (by decide) (by decide) (by decide) (by decide) (by omega)]
  refine ⟨⟨fun v hv => ?_, ?_, fun b hb => by rw [up2_rown (by decide)]; exact x3 b hb⟩, ⟨dsk_scr x1 sC_0, ?_, ?_, ar_s3 b7, by rw [t1]; exact Nat.le_trans i5 (ar_x t), by rw [t2]; exact Nat.le_trans i6 (ar_y t)⟩, ⟨ar_s2 b8.1, b8.2⟩, fun q => ?_⟩
  · rw [r 64 (by decide) (by decide) (by decide) (by decide) (by omega), r (62 + v) (by omega) (by omega) (by omega) (by omega) (by omega)]
    exact b1 v hv
  · rw [up2_j (by decide), x4 57 (by omega)]
    exact b2
  · rw [up2_j (by decide), x4 28 (by omega)]
    exact Nat.le_succ_of_le b5
  · rw [up2_j (by decide), x4 34 (by omega)]
    exact ar_s1 b6
  · rw [up2_j (by decide), off] at q
    cases q
theorem gs_40 {tc rc : Nat} (h1 : tc ≤ 18) (h2 : rc ≤ 544) : tc + (tc + rc + 119) / 120 ≤ 40 := by omega
/-- between the calls, behind a recovery -/
theorem bv_rl (ht : t ≤ 63) (bv : BV t A J N) (hX : rvX (rv1 A) J fr to = .inl B) (hto : to ≤ A 35 28) (hK : J.2.2.2 v s) (hS : ∃ w C4, SR bi w C4 (ud4 B to e s) ∧ PH t w (ud4 B to e s)) (h6 : 40 ≤ udA B to e s 35 6) : BV (t + 1) (udA B to e s) (udJ J s) N ∧ udA B to e s 35 0 = A 35 0 := by
  obtain ⟨⟨b1, b2, b3⟩, ⟨b4, b5, b6, b7, i5, i6⟩, b8, b10⟩ := bv
  obtain ⟨x1, x2, x3, x4⟩ := rvX_x (K := 10000000 * (65 - (t + 1))) (dsk_le b4 (by omega)) b3 hX
  rw [oX_l] at x1 x2 x3 x4
  obtain ⟨w, C4, S4, P4⟩ := hS
  obtain ⟨u1, u2, u3, u4, u5, u6⟩ := ud4_f (B := B) (to := to) (en := e) (s := s)
  obtain ⟨v1, v2, v3, v4, v5, v6⟩ := ud0_f (B := B) (to := to) (en := e) (s := s)
  have U35 := u1 35 (by decide) (by decide) (by decide) (by decide) (by decide) (by decide) (by decide)
  have U36 := u1 36 (by decide) (by decide) (by decide) (by decide) (by decide) (by decide) (by decide)
  have nl : nlc (ud4 B to e s 36) ≤ 16 := by
    rw [U36, v2]
    exact b8.2 _ _ hK
  obtain ⟨⟨m1, m2⟩, m3, m4⟩ := mfL_cnt S4 P4 u5 u2 u3 nl
  obtain ⟨d1, d2, d3⟩ := dn_all 64 0 C4 _ S4 P4 (by omega) u5
  have eE : udA B to e s = mfL 0 64 (ud4 B to e s) := rfl
  rw [← eE] at m1 m2 m3 m4 d3
  have r : ∀ o, o ≠ 35 → o ≠ 36 → ¬ (47 ≤ o ∧ o ≤ 52) → o ≠ 68 → o ≠ 69 → o ≠ 71 → (o < 39 ∨ 46 < o) → udA B to e s o = A o := fun o h1 h2 h3 h4 h5 h6 h7 => by
    rw [d3.1 o h1 h2 h3, u1 o (by omega) (by omega) (by omega) (by omega) (by omega) (by omega) h6, v1 o h1 h2, x2 o h1 (by omega) h4 h5 h7]
  have q35 : ∀ q, q ≠ 34 → (q ≤ 27 ∨ (36 ≤ q ∧ q ≠ 46)) → udA B to e s 35 q = B 35 q := fun q h1 h2 => by rw [d3.2.1 q h1, U35, v3 q (by omega)]
  have e28 : udA B to e s 35 28 = to := by rw [d3.2.1 28 (by decide), U35, v4.1]
  have e34 : udA B to e s 35 34 ≤ 400 * (t + 1) := by
    have f : mfL 0 64 (ud4 B to e s) 35 34 = ud4 B to e s 35 34 := mfL_34 64 0 C4 _ S4 P4 (by omega) u5
    rw [eE, f, U35, v3 34 (by omega), x4 34 (by omega)]
    exact ar_s1 b6
  have r42 : udA B to e s 42 = B 42 := by rw [d3.1 42 (by decide) (by decide) (by omega), u1 42 (by omega) (by omega) (by omega) (by omega) (by omega) (by omega) (by omega), v1 42 (by decide) (by decide)]
  have r43 : udA B to e s 43 = B 43 := by rw [d3.1 43 (by decide) (by decide) (by omega), u1 43 (by omega) (by omega) (by omega) (by omega) (by omega) (by omega) (by omega), v1 43 (by decide) (by decide)]
  have r68 : udA B to e s 68 = B 68 := by rw [d3.1 68 (by decide) (by decide) (by omega), u1 68 (by omega) (by omega) (by omega) (by omega) (by omega) (by omega) (by omega), v1 68 (by decide) (by decide)]
  refine ⟨⟨⟨fun v hv => ?_, ?_, fun b hb => by rw [r68]; exact x3 b hb⟩, ⟨dsk_cg x1 (fun q hq => q35 q (by omega) (by omega)) r42 r43, by rw [e28]; exact Nat.le_succ_of_le (Nat.le_trans hto b5), e34, ar_s3 b7, Nat.le_trans m1 (ar_8 (Nat.le_refl _)), Nat.le_trans m2 (by omega)⟩, ⟨Nat.zero_le _, fun p q y => ?_⟩, fun _ => ⟨m3, m4, ?_, ?_⟩⟩, ?_⟩
  · rw [r 64 (by decide) (by decide) (by omega) (by decide) (by decide) (by decide) (by omega), r (62 + v) (by omega) (by omega) (by omega) (by omega) (by omega) (by omega) (by omega)]
    exact b1 v hv
  · rw [q35 57 (by decide) (by omega), x4 57 (by omega)]
    exact b2
  · have y : p = 0 ∧ q = s := y
    rw [y.2]
    exact b8.2 _ _ hK
  · exact Nat.le_trans (gs_40 m1 m2) h6
  · show 0 + (tcA (udA B to e s) + rcA (udA B to e s)) ≤ 800 * (t + 1)
    generalize tcA (udA B to e s) = x at *
    generalize rcA (udA B to e s) = y at *
    clear b4 x1
    omega
  · rw [q35 0 (by decide) (by omega), x4 0 (by omega)]
end RCL
