/-! ===== PURE: both constructors; the law before its first call ===== -/
section STA
variable {b0 fu l r : Nat} {σ0 σ τ ρ π : tM} {C C2 A : tS} {J : tJ}
theorem fmY_p (cb : ¬ (nI l < 40 ∨ (4096 : Int32) < nI l ∨ nI r < 16 ∨ (2000 : Int32) < nI r)) (hl : l < 2147483648) (hr : r < 2147483648) : fmY (nI l) (nI r) A J = (((34 + l + r : Nat) : Int), (foA l r A, foJ J (foA l r A))) := by
  unfold fmY
  rw [if_neg cb, nI_cl hl, nI_cl hr]
theorem ctor_c (hu : 7000 ≤ fu) (h0 : tn σ0 = 0) (h1 : tu σ0 = 0) : ∃ τ C2, m_X10_init b0 fu (b0 + 0) (sN σ0 (b0 + 0) (.inl 10) 10) = some ((), τ) ∧ S2p 40 16 (rsD C00 0 (34 + 40 + 16)) C2 ∧ CI0 b0 112516 (C4f C2 40) τ := by
  have m0 : MB b0 0 σ0 σ0 0 0 (fun _ => .inl 0) (fun _ _ => none) := ⟨h0, h1, fun i hi => absurd hi (Nat.not_lt_zero _), Nat.le_refl _, fun i _ hi => absurd hi (Nat.not_lt_zero _)⟩
  have m1 := MB_N (k' := 1) (kd := .inl 10) (n := 10) m0 rfl
  have t1 := m1.1
  have u1 := m1.2.1
  refine X10_b (fu := fu) (Q := fun x => ∃ τ C2, x = some ((), τ) ∧ S2p 40 16 (rsD C00 0 (34 + 40 + 16)) C2 ∧ CI0 b0 112516 (C4f C2 40) τ) m1 (fun π m => ?_)
  obtain ⟨τ, C2, e, s, c⟩ := begin_z (fu := fu) hu m
  have c1 := c.2.1
  have c2 := c.2.2.1
  refine ⟨τ, C2, ?_, s, c⟩
  rw [show m_X10_begin b0 fu (b0 + 0) 40 16 π = some ((), τ) from e, cll_some]
  exact grw_p rfl (by rw [t1, c1]; omega) (by rw [u1, c2]; omega)
theorem ctor_r (hu : 1200000 ≤ fu) (h35 : tn τ = 35) : ∃ π ρ, m_X12_init b0 fu (b0 + 35) (sN τ (b0 + 35) (.inl 11) 60) = some ((), ρ) ∧ MB b0 35 τ π 73 (tu τ + 60 + 1711988) Kr (Rr b0) ∧ FRy b0 π ρ ∧ RMy b0 (foJ J00 (foA 40 16 A00)) ρ (foA 40 16 A00) 0 := by
  have m0 : MB b0 35 τ τ 35 (tu τ) (fun _ => .inl 0) (fun _ _ => none) := ⟨h35, rfl, fun i _ => same_r τ _, Nat.le_refl _, fun i h1 h2 => absurd h1 (Nat.not_le.mpr h2)⟩
  have m1 := MB_N (k' := 36) (kd := .inl 11) (n := 60) m0 rfl
  have t1 := m1.1
  have u1 := m1.2.1
  refine X12_b (fu := fu) (Q := fun x => ∃ π ρ, x = some ((), ρ) ∧ MB b0 35 τ π 73 (tu τ + 60 + 1711988) Kr (Rr b0) ∧ FRy b0 π ρ ∧ RMy b0 (foJ J00 (foA 40 16 A00)) ρ (foA 40 16 A00) 0) m1 (fun π m => ?_)
  obtain ⟨v, ρ, e, f, -, q⟩ := format_wpy (fu := fu) (x := nI 40) (y := nI 16) (MB_RM m) hu
  have ef := fmY_p (l := 40) (r := 16) (A := A00) (J := J00) (by decide) (by omega) (by omega)
  rw [ef] at q
  refine ⟨π, ρ, ?_, m, f, q⟩
  rw [show m_X12_format b0 fu (b0 + 35) 40 16 π = some (v, ρ) from e, cll_some]
  exact grw_p rfl (by rw [t1, f.2.1, m.1]; omega) (by rw [u1, f.2.2.1, m.2.1]; omega)
theorem CA_lift (h : CAz b0 σ C) (h74 : 74 ≤ tn τ) (hs : ∀ i, i < 35 → same σ τ (b0 + i)) : CA b0 τ C := by
  obtain ⟨L, h2, h3, h4⟩ := h
  refine ⟨?_, fun o j e => ?_, fun j => ?_, h4⟩
  · unfold LayCz at L
    obtain ⟨-, L⟩ := L
    unfold LayC
    refine ⟨h74, ?_⟩
    rw [(hs 0 (by omega)).1, (hs 1 (by omega)).1, (hs 2 (by omega)).1, (hs 3 (by omega)).1, (hs 4 (by omega)).1, (hs 5 (by omega)).1, (hs 6 (by omega)).1, (hs 7 (by omega)).1, (hs 8 (by omega)).1, (hs 9 (by omega)).1, (hs 10 (by omega)).1, (hs 11 (by omega)).1, (hs 12 (by omega)).1, (hs 13 (by omega)).1, (hs 14 (by omega)).1, (hs 15 (by omega)).1, (hs 16 (by omega)).1, (hs 17 (by omega)).1, (hs 18 (by omega)).1, (hs 19 (by omega)).1, (hs 20 (by omega)).1, (hs 21 (by omega)).1, (hs 22 (by omega)).1, (hs 23 (by omega)).1, (hs 24 (by omega)).1, (hs 25 (by omega)).1, (hs 26 (by omega)).1, (hs 27 (by omega)).1, (hs 28 (by omega)).1, (hs 29 (by omega)).1, (hs 30 (by omega)).1, (hs 31 (by omega)).1, (hs 32 (by omega)).1, (hs 0 (by omega)).2.2.2, (hs 1 (by omega)).2.2.2, (hs 10 (by omega)).2.2.2, (hs 18 (by omega)).2.2.2, (hs 20 (by omega)).2.2.2, (hs 23 (by omega)).2.2.2, (hs 24 (by omega)).2.2.2, (hs 26 (by omega)).2.2.2, (hs 28 (by omega)).2.2.2, (hs 30 (by omega)).2.2.2]
    exact L
  · have l := isC_lt e
    rw [(hs o (by omega)).2.1]
    exact h2 o j e
  · rw [(hs 11 (by omega)).2.2.1]
    exact h3 j
/-- the class's rows, before the first call -/
def D73 (b0 : Nat) (X : Nat → Nat) : tD := ((fun o j => if o = 21 ∧ j = 2 then some (b0 + 33) else none), (fun _ j => if j < 32 then X (64 + j) else 0), (fun _ => 0), 0, (fun _ _ => 0), (fun _ _ _ => 0), 0, 0, 1824599, 74)
theorem start_DY (c : CI0 b0 112516 C τ) (h74 : tn ρ = 74) (hs : ∀ i, i < 35 → same τ ρ (b0 + i)) (hr : ∀ a, refO b0 ρ a → b0 + 35 ≤ a) : DY b0 ρ (D73 b0 (C 11)) (fun _ => (21, 2)) := by
  obtain ⟨ca, -, -, ⟨k1, k2, a1⟩, wd, pt, p5, p6, p7⟩ := c
  have row : isRow b0 ρ (b0 + 33) (dW (D73 b0 (C 11)) (b0 + 33)) := by
    refine ⟨by rw [(hs 33 (by omega)).1]; exact k1, by rw [show b0 + 33 + 1 = b0 + 34 from rfl, (hs 34 (by omega)).1]; exact k2, by rw [(hs 33 (by omega)).2.2.2]; exact a1, ⟨Nat.le_refl _, by omega, by omega, by omega⟩, ⟨fun q => ?_, fun q => ?_⟩, fun j => ⟨?_, ?_⟩⟩
    · have := hr _ q
      omega
    · have := hr _ q
      omega
    · rw [show b0 + 33 + 1 = b0 + 34 from rfl, (hs 34 (by omega)).2.2.1]
      exact wd j
    · show (if j < 32 then C 11 (64 + j) else 0) < 18446744073709551616
      by_cases g : j < 32
      · rw [if_pos g]
        exact ca.2.2.2 11 (64 + j)
      · rw [if_neg g]
        decide
  refine ⟨fun o j hp => ⟨?_, fun a e => ?_⟩, ⟨?_, fun k hk => absurd hk (Nat.not_lt_zero _)⟩, ⟨Nat.le_refl _, (show (0 : Nat) < 2147483648 by decide), ?_, ?_⟩, fun n h1 h2 => absurd h1 (Nat.not_lt.mpr h2)⟩
  · show _ = if o = 21 ∧ j = 2 then some (b0 + 33) else none
    rcases hp with ⟨rfl, hj⟩ | ⟨rfl, hj⟩ | ⟨rfl, hj⟩
    · rw [if_neg (by omega), (hs 3 (by omega)).2.2.2]
      exact (pt j).1
    · rw [if_neg (by omega), (hs 8 (by omega)).2.2.2]
      exact (pt j).2.1
    · rw [(hs 21 (by omega)).2.2.2, (pt j).2.2]
      by_cases d : j = 2
      · rw [if_pos d, if_pos ⟨rfl, d⟩]
      · rw [if_neg d, if_neg (fun q => d q.2)]
  · have e : (if o = 21 ∧ j = 2 then some (b0 + 33) else none) = some a := e
    by_cases d : o = 21 ∧ j = 2
    · rw [if_pos d] at e
      cases e
      exact ⟨row, by rw [d.1, d.2]⟩
    · rw [if_neg d] at e
      cases e
  · rw [(hs 20 (by omega)).2.2.2]
    exact p7
  · rw [(hs 20 (by omega)).2.2.2]
    exact p5
  · rw [(hs 20 (by omega)).2.2.2]
    exact p6
theorem start_fm (s2 : S2p 40 16 (rsD C00 0 (34 + 40 + 16)) C2) {W : Nat → Nat} (hW : ∀ q, q < 65088 → W q = mW (D73 b0 (C4f C2 40 11)) 0 q) : FMc 40 16 (foA 40 16 A00) (upR (C4f C2 40) 100 W) (D73 b0 (C4f C2 40 11)) := by
  have o1 := (fo_rows 40 16 A00).1
  have c0 : ∀ o j, o ≠ 12 → o ≠ 32 → o ≠ 1 → o ≠ 28 → o ≠ 30 → C00 o j = 0 := fun o j h1 h2 h3 h4 h5 => by
    unfold C00
    rw [if_neg (by omega), if_neg (by omega)]
  have a0 : ∀ o j, o ≠ 71 → o ≠ 35 → A00 o j = 0 := fun o j h1 h2 => if_neg (by omega)
  refine fm_of (C := C00) (k := 0) (by omega) (by omega) (fun b _ _ => ⟨c0 2 b (by decide) (by decide) (by decide) (by decide) (by decide), c0 4 b (by decide) (by decide) (by decide) (by decide) (by decide), c0 5 b (by decide) (by decide) (by decide) (by decide) (by decide)⟩) (fun q _ => c0 11 q (by decide) (by decide) (by decide) (by decide) (by decide)) (fun j => ?_) s2 ⟨rfl, rfl⟩ (mW_bg (a := b0 + 33) (fun j _ h2 => ?_) rfl (fun j hj => ?_)) hW
  · rw [o1 70 (by decide) (by decide) (by decide) (by decide) (by omega) (by decide) (by decide), o1 62 (by decide) (by decide) (by decide) (by decide) (by omega) (by decide) (by decide), o1 63 (by decide) (by decide) (by decide) (by decide) (by omega) (by decide) (by decide)]
    exact ⟨(c0 27 j (by decide) (by decide) (by decide) (by decide) (by decide)).trans (a0 70 j (by decide) (by decide)).symm, (c0 29 j (by decide) (by decide) (by decide) (by decide) (by decide)).trans (a0 62 j (by decide) (by decide)).symm, (c0 31 j (by decide) (by decide) (by decide) (by decide) (by decide)).trans (a0 63 j (by decide) (by decide)).symm⟩
  · exact if_neg (fun q => h2 q.2)
  · have u11 := (su_f (C := C2) (by have := s2.2.1.1; omega) (s2.2.2.2.2.1 2).1).2.1
    have t11 : C4f C2 40 11 = jrC (suC C2 0 2 0) 40 11 := (tl_f (C := jrC (suC C2 0 2 0) 40)).1 11 (by decide) (by decide) (by decide) (by decide)
    have j11 : jrC (suC C2 0 2 0) 40 11 = suC C2 0 2 0 11 := (jr_f (C := suC C2 0 2 0) (l := 40)).1 11 (by decide) (by decide) (by decide) (by decide) (by decide)
    show (if j < 32 then C4f C2 40 11 (64 + j) else 0) = _
    rw [if_pos hj, t11, j11, u11]
    by_cases c : j = 0
    · rw [if_pos (by omega), if_pos c]
    · rw [if_neg (by omega), if_neg c, s2.2.2.1 _ (by omega), if_neg (by omega)]
theorem start (hu : 1200000 ≤ fu) (h0 : tn σ0 = 0) (h1 : tu σ0 = 0) (L : Nat) (xs : Nat → Int32) : ∃ ρ, m_L_law b0 fu L xs σ0 = grw σ0 (L_L_law_23 b0 fu L xs fu (b0 + 0) (b0 + 35) (b0 + 73) 0 ρ) ∧ INV b0 0 ρ 1824599 74 := by
  obtain ⟨τ, C2, e1, s2, c⟩ := ctor_c (b0 := b0) (fu := fu) (by omega) h0 h1
  obtain ⟨π, ρ, e2, m, f, q⟩ := ctor_r (b0 := b0) (τ := τ) hu c.2.1
  have n73 : tn ρ = 73 := f.2.1.trans m.1
  have u73 : tu ρ = 1824598 := by
    rw [f.2.2.1, m.2.1, c.2.2.1]
  have rO : ∀ a, refO b0 π a → b0 + 35 ≤ a ∧ a < b0 + 73 := fun a ha => by
    rcases ha with ⟨h1, h2⟩ | ⟨g, hg, e⟩
    · exact ⟨h1, by omega⟩
    · obtain ⟨d1, -, d3⟩ := MB_D m hg
      rw [d1] at e
      cases e
      rw [m.1] at d3
      refine ⟨?_, d3⟩
      have := isD_of hg
      unfold inD
      split <;> omega
  have sm : ∀ i, i < 35 → same τ (sN ρ (b0 + 73) (.inr (3, 1)) 1) (b0 + i) := fun i hi => by
    refine same_t (m.2.2.1 i hi) (same_t (f.1.2.2.2.2.1 _ (by rw [m.1]; omega) (fun y => ?_)) (same_sN (by omega)))
    have := rO _ y
    omega
  have a35 : tA (sN ρ (b0 + 73) (.inr (3, 1)) 1) (b0 + 35) = tA π (b0 + 35) := by
    rw [(same_sN (show b0 + 35 ≠ b0 + 73 by omega)).2.2.2, f.2.2.2.2]
  have rO2 : ∀ a, refO b0 (sN ρ (b0 + 73) (.inr (3, 1)) 1) a → b0 + 35 ≤ a ∧ a < b0 + 73 := fun a ha => rO a (by
    unfold refO at ha ⊢
    rw [a35] at ha
    exact ha)
  have t74 : tn (sN ρ (b0 + 73) (.inr (3, 1)) 1) = 74 := by rw [rd_nN, n73]
  have u74 : tu (sN ρ (b0 + 73) (.inr (3, 1)) 1) = 1824599 := by rw [rd_uN, u73]
  have k73 : tk (sN ρ (b0 + 73) (.inr (3, 1)) 1) (b0 + 73) = .inr (3, 1) := by rw [rd_kN, if_pos rfl]
  have rm : RM b0 (foJ J00 (foA 40 16 A00)) (sN ρ (b0 + 73) (.inr (3, 1)) 1) (foA 40 16 A00) 0 := RM_up q (by rw [t74]; exact Nat.le_refl _) (by rw [t74, n73]; omega) (fun a ha => same_sN (by omega))
  have ca := CA_lift c.1 (by rw [t74]; exact Nat.le_refl _) sm
  have dy := start_DY c t74 sm (fun a ha => (rO2 a ha).1)
  have cm : CM b0 (sN ρ (b0 + 73) (.inr (3, 1)) 1) (C4f C2 40) (D73 b0 (C4f C2 40 11)) := by
    refine ⟨ca, fun a ha => ?_, ⟨?_, ?_⟩, _, dy⟩
    · have := rO2 a ha
      refine ⟨this.1, by omega, by rw [t74]; omega⟩
    · rw [u74]
      exact Nat.le_add_right _ _
    · rw [t74]
      exact Nat.le_add_right _ _
  refine ⟨sN ρ (b0 + 73) (.inr (3, 1)) 1, ?_, ?_⟩
  · unfold m_L_law
    rw [ltb_def, h0, e1, cll_some, ltb_def, c.2.1, e2, cll_some, ltb_def, n73]
    rfl
  · generalize sN ρ (b0 + 73) (.inr (3, 1)) 1 = ρ' at *
    obtain ⟨W, w1, w2⟩ := gh_W cm
    have fm := start_fm (b0 := b0) s2 w1
    have ro := fm_RO (t := 0) (J := J00) (by omega) (by omega) (by omega) fm rm.ok (fun b _ => if_neg (by omega)) (fun i => by show (0 : Nat) < 1000000000; omega)
    have bv := bv_fg (t := 0) (l := 40) (r := 16) (A := A00) (J := J00) (N := 0) (by omega) (by omega) (by omega) (by omega) (fun b _ => if_neg (by omega)) (by rw [show A00 35 34 = 0 from if_neg (by omega)]; exact Nat.zero_le _) (by omega)
    exact ⟨upR (C4f C2 40) 100 W, D73 b0 (C4f C2 40 11), foA 40 16 A00, foJ J00 (foA 40 16 A00), 0, z00, z00, w00, k73, CM_gh cm w2, rm, Or.inl ro, bv, Nat.le_add_right _ _, Nat.le_add_right _ _⟩
end STA
