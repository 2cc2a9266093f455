/-! ===== PURE: the journal's append, whole: the method ===== -/
/-- the class's cells behind append -/
def apC (C : tS) (sz : Nat) : tS := fl 19 0 0 64 (emF (up2 (up2 (up2 C 20 12 (C 20 12 + 1)) 20 9 (C 20 9 + sz)) 20 10 (wrC C (C 20 10 + sz))) (C 20 12 + 2))
section APR
variable {b0 fu : Nat} {σ τ ρ : tM} {C C' : tS} {D D' D'' : tD} {z tl rl : Nat → Nat} {x sz : Nat}
theorem app73 (h : CM b0 (sA ρ (b0 + 20) 6 (some x)) C D) (hc : ci C) (hk : ∀ {β : Type} (k : Option β), ckO b0 ρ (b0 + 20) 1 k = k) (hs : C 20 10 + sz < 2147483648) (h9 : C 20 9 + sz < 2147483648) (h12 : C 20 12 + 1 < 2147483648) (hf : FC b0 σ (sA ρ (b0 + 20) 6 (some x))) (hu : 3000 ≤ fu) : wp (FC b0) σ (J_X1_append_73 b0 fu (b0 + 20) (nI sz) (some x) ρ) (fun _ τ => CM b0 τ (fl 19 0 0 64 (emF (up2 (up2 C 20 9 (C 20 9 + sz)) 20 10 (wrC C (C 20 10 + sz))) (C 20 12 + 1))) D) := by
  refine wp_from (FC_good b0) hf ?_
  generalize hσ1 : sA ρ (b0 + 20) 6 (some x) = σ1 at h
  unfold J_X1_append_73
  rw [omt_some, hk, hσ1, cf_20_9 h.ca, nI_add]
  have g1 : CM b0 (sI σ1 (b0 + 20) 9 (nI (C 20 9 + sz))) (up2 C 20 9 (C 20 9 + sz)) D := CM_fix (o := 20) h rfl rfl h9
  have w : wrC (up2 C 20 9 (C 20 9 + sz)) (C 20 10 + sz) = wrC C (C 20 10 + sz) := by
    unfold wrC
    rw [up2_j (by decide)]
  rw [cf_20_10 g1.ca, up2_j (by decide), nI_add, wrap_c g1.ca hs, cll_some, w]
  have g2 : CM b0 (sI (sI σ1 (b0 + 20) 9 (nI (C 20 9 + sz))) (b0 + 20) 10 (nI (wrC C (C 20 10 + sz)))) (up2 (up2 C 20 9 (C 20 9 + sz)) 20 10 (wrC C (C 20 10 + sz))) D := CM_fix (o := 20) g1 rfl rfl (by
    show wrC C (C 20 10 + sz) < 2147483648
    unfold wrC
    split
    · exact Nat.lt_of_le_of_lt (Nat.mod_le _ _) hs
    · omega)
  rw [ckC_20 g1.lay, osm_p (rfC_20_1 g2.lay), ckC_10 g2.lay, cf_20_12 g2.ca, up2_j (by decide), up2_j (by decide), show nI (C 20 12) + (1 : Int32) = nI (C 20 12 + 1) from nI_add _ 1]
  have hc2 : ci (up2 (up2 C 20 9 (C 20 9 + sz)) 20 10 (wrC C (C 20 10 + sz))) := ci_cong hc (fun q _ => by rw [up2_o (by decide), up2_o (by decide)]) (by rw [up2_rown (by decide), up2_rown (by decide)]) (by rw [up2_rown (by decide), up2_rown (by decide)]) (by rw [up2_rown (by decide), up2_rown (by decide)])
  refine wp_from (FC_good b0) (FC_2 (FC_sI h.rf (by omega)) (FC_sI g1.rf (by omega))) (wp_bind (FC_good b0) (emptyGroup_c (fu := fu) g2 hc2 h12 hu) ?_)
  intro _ ρ2 g3
  rw [ckC_20 g3.lay, osm_p (rfC_20_2 g3.lay), ckC_18 g3.lay]
  refine wp_bind (FC_good b0) (forgetChanges_c (fu := fu) g3 hu) ?_
  intro _ ρ3 g4
  exact wp_ret ((FC_good b0).1 _) g4
/-- append -/
theorem appendJ_c (h : CM b0 σ C D) (hc : ci C) (h12 : C 20 12 = dH D) (hs : C 20 10 + sz < 2147483648) (h9 : C 20 9 + sz < 2147483648) (hH : dH D + 3 < 2147483648) (hu : 3000 ≤ fu) :
    wp (FC b0) σ (m_X1_append b0 fu (b0 + 20) (nI sz) σ) (fun _ τ => ∃ D' z tl rl, CM b0 τ (apC C sz) (adT D' (b0 + tn σ) (C 20 17) (C 20 10) sz (C 10 11) (C 10 12) tl z rl) ∧ LSt C D' (C 10 7) (C 10 11) tl z ∧ LSr C (C 10 7) (C 10 12) rl ∧ sP D D' ∧ KW D D' ∧ dE D' ≤ dE D + (8 + C 10 11 + C 10 11 + C 10 12) + 34 * C 10 11 ∧ dO D' ≤ dO D + 4 + 2 * C 10 11) := by
  have L := h.lay
  have l74 := L.1
  have s6 : dL D = dH D → tA σ (b0 + 20) 6 = none := fun c => by
    obtain ⟨-, -, -, pl, -, -, ⟨-, -, -, g7⟩, -⟩ := h
    rw [g7, if_pos c]
  have bb := ci_b hc
  refine wp_grw (FC_good b0) ?_
  rw [ckC_20 L, cf_20_12 h.ca, show nI (C 20 12) + (1 : Int32) = nI (C 20 12 + 1) from nI_add _ 1]
  have h1 : CM b0 (sI σ (b0 + 20) 12 (nI (C 20 12 + 1))) (up2 C 20 12 (C 20 12 + 1)) D := CM_fix (o := 20) h rfl rfl (by show _ < 2147483648; omega)
  have f1 : FC b0 σ (sI σ (b0 + 20) 12 (nI (C 20 12 + 1))) := FC_sI h.rf (by omega)
  have t6 : tA (sI σ (b0 + 20) 12 (nI (C 20 12 + 1))) (b0 + 20) 6 = tA σ (b0 + 20) 6 := rfl
  have etn : b0 + tn σ = b0 + tn (sI σ (b0 + 20) 12 (nI (C 20 12 + 1))) := rfl
  rw [etn]
  rw [← t6] at s6
  have l74' : 74 ≤ tn (sI σ (b0 + 20) 12 (nI (C 20 12 + 1))) := l74
  have hc1 : ci (up2 C 20 12 (C 20 12 + 1)) := ci_cong hc (fun q _ => by rw [up2_o (by decide)]) (by rw [up2_rown (by decide)]) (by rw [up2_rown (by decide)]) (by rw [up2_rown (by decide)])
  refine wp_from (FC_good b0) f1 ?_
  generalize hσ1 : sI σ (b0 + 20) 12 (nI (C 20 12 + 1)) = σ1 at h1 s6 l74'
  have v9 : up2 C 20 12 (C 20 12 + 1) 20 9 = C 20 9 := up2_j (by decide)
  have v10 : up2 C 20 12 (C 20 12 + 1) 20 10 = C 20 10 := up2_j (by decide)
  have v17 : up2 C 20 12 (C 20 12 + 1) 20 17 = C 20 17 := up2_j (by decide)
  have v12 : up2 C 20 12 (C 20 12 + 1) 20 12 = C 20 12 + 1 := up2_s _ _ _ _
  have w10 : up2 C 20 12 (C 20 12 + 1) 10 = C 10 := up2_rown (by decide)
  have w11 : up2 C 20 12 (C 20 12 + 1) 11 = C 11 := up2_rown (by decide)
  have w15 : up2 C 20 12 (C 20 12 + 1) 15 = C 15 := up2_rown (by decide)
  have w16 : up2 C 20 12 (C 20 12 + 1) 16 = C 16 := up2_rown (by decide)
  have wr1 : ∀ p, wrC (up2 C 20 12 (C 20 12 + 1)) p = wrC C p := fun p => by unfold wrC; rw [up2_j (by decide)]
  have eap : fl 19 0 0 64 (emF (up2 (up2 (up2 C 20 12 (C 20 12 + 1)) 20 9 (up2 C 20 12 (C 20 12 + 1) 20 9 + sz)) 20 10 (wrC (up2 C 20 12 (C 20 12 + 1)) (up2 C 20 12 (C 20 12 + 1) 20 10 + sz))) (up2 C 20 12 (C 20 12 + 1) 20 12 + 1)) = apC C sz := by
    unfold apC
    rw [v9, v10, v12, wr1]
  generalize hC1 : up2 C 20 12 (C 20 12 + 1) = C1 at h1 hc1 v9 v10 v17 v12 w10 w11 w15 w16 wr1 eap
  have h3 := CM_new (k := .inl 7) (n := 8) h1
  have L3 := h3.lay
  rw [ltb_def, ckC_20 L3, osm_p (rfC_20_1 L3), ckC_10 L3, osm_p (rfC_20_1 L3), ckC_10 L3, cf_20_12 h3.ca, cf_20_17 h3.ca, cf_20_10 h3.ca, cf_10_11 h3.ca, cf_10_12 h3.ca, init7_c l74' (by rw [w10]; omega) (by rw [w10]; omega), cll_some, v12, v17, v10, w10]
  obtain ⟨e1, e2, e3, ⟨k1, k2, k3, k4⟩, ⟨a4, a5, a6, a7⟩, i1, i2, i3, i4⟩ := nwT_f (b0 := b0) (σ := σ1) (n := C 20 12 + 1) (st := C 20 17) (at_ := C 20 10) (sz := sz) (T := C 10 11) (R := C 10 12)
  generalize hτ : nwT b0 σ1 (C 20 12 + 1) (C 20 17) (C 20 10) sz (C 10 11) (C 10 12) = τ at e1 e2 e3 k1 k2 k3 k4 a4 a5 a6 a7 i1 i2 i3 i4
  have fcτ : FC b0 σ1 τ := FC_low h1.rf l74' (by omega) (by omega) e3
  have g1 := CG_grow (z := mo0) (x := 8 + C 10 11 + C 10 11 + C 10 12) (y := 4) (CG_of (z := mo0) h1) fcτ e3 e2 e1
  have nr : ∀ y, b0 + tn σ1 ≤ y → ¬ refO b0 τ y := fun y hy q => by
    have := (h1.rf y ((FC_ref fcτ y).mp q)).2.2
    omega
  have hm : MKt b0 τ (b0 + tn σ1) (C1 10 11) (C1 10 12) 0 0 mo0 mo0 mo0 (tI τ (b0 + tn σ1)) := by
    rw [w10]
    exact ⟨⟨k1, k2, k3, k4⟩, ⟨a4, a5, a6, a7, rfl⟩, ⟨by omega, by omega, nr _ (by omega), nr _ (by omega), nr _ (by omega), nr _ (by omega)⟩, fun k hk => by omega, fun k hk => by omega⟩
  have hl : lowT (adE D (8 + C 10 11 + C 10 11 + C 10 12) 4) (b0 + tn σ1) := by
    intro n n1 n2
    obtain ⟨-, -, -, pl, -, -, -, g8⟩ := h1
    have t := (g8 n n1 n2).2.1
    exact ⟨t.1.2.1, t.2.1.2.1, t.2.2.1.2.1, t.2.2.2.2.1⟩
  rw [ckC_20 g1.lay]
  refine wp_from (FC_good b0) fcτ ?_
  have col := collect_c (fu := fu) g1 hc1 hm hl hu
  refine wp_bind (FC_good b0) (wp_rel (fun a b (q : F6 b0 a b) => q.1) (wp_mono col (fun v ρ f q => (⟨f, q⟩ : F6 b0 τ ρ ∧ _)))) ?_
  rintro _ ρ2 ⟨f6, D', z', tl', rl', c1, c2, c3, c4, c5, c6, c7, c8⟩
  have q6 : dL D = dH D → tA ρ2 (b0 + 20) 6 = none := fun c => by rw [f6.2, (e3 (b0 + 20) (by omega)).2.2.2]; exact s6 c
  rw [w10] at c1 c2 c3 c4 c7 c8
  obtain ⟨p1, p2, p3, p4, p5⟩ := c5
  have lst' : LSt C D' (C 10 7) (C 10 11) tl' z' := by
    intro k hk
    have := c3 k hk
    unfold p15 at this ⊢
    rw [w15, w11] at this
    exact this
  have lsr' : LSr C (C 10 7) (C 10 12) rl' := by
    intro k hk
    have := c4 k hk
    unfold p16 at this ⊢
    rw [w16] at this
    exact this
  have c72 := hc.1.2.1
  have hl' : lowT D' (b0 + tn σ1) := by
    intro n n1 n2
    rw [p2]
    exact hl n (by rw [← p4]; exact n1) (by rw [← p5]; exact n2)
  have link := fun ρ hρ => CG_link (st := C 20 17) (at_ := C 20 10) (sz := sz) (ρ := ρ) c1 c2 (by rw [i1, h12, p5]; rfl) i2 i3 i4 hl' (fun c => q6 (by rw [p4, p5] at c; exact c)) (by rw [p5]; show dH D + 1 < _; omega) ⟨cb_20 h.ca 17, cb_20 h.ca 10, by omega, by omega, by omega⟩ (fun k hk => by have := lst' k hk; omega) (fun k hk => by have := lsr' k hk; omega) hρ
  have pd4 : dL D' = dL D := p4
  have pd5 : dH D' = dH D := p5
  have fin : ∀ τ2, CM b0 τ2 (apC C sz) (adT D' (b0 + tn σ1) (C 20 17) (C 20 10) sz (C 10 11) (C 10 12) tl' z' rl') → ∃ D' z tl rl, CM b0 τ2 (apC C sz) (adT D' (b0 + tn σ1) (C 20 17) (C 20 10) sz (C 10 11) (C 10 12) tl z rl) ∧ LSt C D' (C 10 7) (C 10 11) tl z ∧ LSr C (C 10 7) (C 10 12) rl ∧ sP D D' ∧ KW D D' ∧ dE D' ≤ dE D + (8 + C 10 11 + C 10 11 + C 10 12) + 34 * C 10 11 ∧ dO D' ≤ dO D + 4 + 2 * C 10 11 := fun τ2 q => ⟨D', z', tl', rl', q, lst', lsr', ⟨p1, p2, p3, p4, p5⟩, c6, c7, c8⟩
  have go : ∀ ρ, (ρ = if dL D' = dH D' then sA ρ2 (b0 + 20) 5 (some (b0 + tn σ1)) else sA ρ2 (dT D' 0 (dH D')) 7 (some (b0 + tn σ1))) → wp (FC b0) ρ2 (J_X1_append_73 b0 fu (b0 + 20) (nI sz) (some (b0 + tn σ1)) ρ) (fun _ τ2 => ∃ D' z tl rl, CM b0 τ2 (apC C sz) (adT D' (b0 + tn σ1) (C 20 17) (C 20 10) sz (C 10 11) (C 10 12) tl z rl) ∧ LSt C D' (C 10 7) (C 10 11) tl z ∧ LSr C (C 10 7) (C 10 12) rl ∧ sP D D' ∧ KW D D' ∧ dE D' ≤ dE D + (8 + C 10 11 + C 10 11 + C 10 12) + 34 * C 10 11 ∧ dO D' ≤ dO D + 4 + 2 * C 10 11) := fun ρ hρ => by
    obtain ⟨y1, y2⟩ := link ρ hρ
    have ck : ∀ {β : Type} (k : Option β), ckO b0 ρ (b0 + 20) 1 k = k := fun k => by
      have e := ckC_20 (k := k) c1.lay
      rw [hρ]
      split
      · exact e
      · exact e
    refine wp_mono (app73 (sz := sz) y1 hc1 ck (by rw [v10]; exact hs) (by rw [v9]; exact h9) (by rw [v12]; omega) y2 hu) (fun _ τ2 _ q => fin τ2 ?_)
    rw [eap] at q
    exact q
  rw [ckC_20 c1.lay]
  by_cases c : dL D = dH D
  · rw [q6 c, omt_none]
    exact go _ (by rw [if_pos (by rw [pd4, pd5]; exact c)])
  · have n6 : tA ρ2 (b0 + 20) 6 = some (dT D' 0 (dH D')) := by
      obtain ⟨-, -, -, pl, ⟨-, -, ⟨-, -, -, g7⟩, -⟩, -⟩ := c1
      exact g7.resolve_left (by rw [pd4, pd5]; exact c)
    obtain ⟨pl, t⟩ := c1.tx (n := dH D') (by rw [pd4, pd5]; have := (CG_of (z := mo0) h1).old.2.1; omega) (Nat.le_refl _)
    rw [n6, omt_some, omt_some, ckO_tx t]
    exact go _ (by rw [if_neg (by rw [pd4, pd5]; exact c)])
end APR
