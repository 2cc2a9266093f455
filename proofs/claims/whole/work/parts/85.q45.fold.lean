/-! ===== PURE: the journal's fold, whole; dropAll ===== -/
section FLF
variable {b0 fu : Nat} {σ τ ρ : tM} {C C' : tS} {D D' : tD} {pl : Nat → Nat × Nat} {mo z : Nat → Nat} {m n : Nat}
theorem upz_m (z : Nat → Nat) (m a : Nat) : upz z m a m = a := if_pos rfl
theorem fold20 {x1 : Int32} {rc0 : Nat → Int32 → tM → Option (Unit × tM)} {Q : Unit → tM → Prop} (hu9 : dT D 4 n ≤ C 20 9) (hlg : dT D 3 n + dT D 4 n < 2147483648) (hfu : dT D 9 n < fu) (hdi : ∀ k k', k < dT D 8 n → k' < dT D 8 n → dX D 0 n k = dX D 0 n k' → k = k') : ∀ j i f σ D' mo, CG b0 σ C D' mo z 0 → mo n = i → sJ D D' → n = dL D + 1 → n ≤ dH D → i + j = dT D 8 n → j < f →
    (∀ k, k < i → dP D' 21 (dX D 0 n k) = some (dX D 1 n k)) → (∀ c, (∀ k, k < i → dX D 0 n k ≠ c) → dP D' 21 c = dP D 21 c) →
    (∀ τ D'' mo', CG b0 τ (fdC C D n) (dL1 D'') mo' z 0 → (∀ n', n' ≠ n → mo' n' = mo n') → sJ D D'' → fdB D D'' n → wp (FC b0) τ (rc0 (b0 + 20) x1 τ) Q) →
    wp (FC b0) σ (L_X1_fold_20 b0 fu rc0 f (b0 + 20) x1 (nI i) σ) Q := by
  intro j
  induction j with
  | zero =>
    intro i f σ D' mo h hmo hs hn hH hi hf T1 T2 K
    obtain ⟨f, rfl⟩ : ∃ q, f = q + 1 := ⟨f - 1, by omega⟩
    have hs0 := hs
    obtain ⟨s1, s2, s3, s4, s5, s6, s7, s8, s9⟩ := hs
    have L := h.lay
    have o5 := h.old.1
    rw [s4, s5, if_neg (by omega), ← hn, s2] at o5
    obtain ⟨pl, t⟩ := h.tx (n := n) (by rw [s4]; omega) (by rw [s5]; exact hH)
    have t0 := t
    obtain ⟨b8, b9, b2, b3, b4⟩ := tx_8 t
    rw [s2] at b8 b9 b2 b3 b4
    obtain ⟨k1, k2, k3, k4, k5, k6, k7⟩ := t
    rw [s2] at k1 k2 k3 k4
    have cO : ∀ {β : Type} (k : Option β), ckO b0 σ (dT D 0 n) 7 k = k := fun k => ckO_p k1.1 ⟨by have := k2.1.1; omega, k2.1.2.1⟩
    have r5 : ∀ {β : Type} (k : Nat → Option β), ckR b0 σ (dT D 5 n) 0 k = k (dT D 8 n) := fun k => by
      have := (ckR_tx (k := k) t0).1
      rwa [s2] at this
    unfold L_X1_fold_20
    rw [ltb_def, ckC_20 L, o5, omt_some, cO, osm_p k4.1, r5, if_l b8 (by omega), if_pos (by omega)]
    refine fold62 (D := D) (n := n) hu9 hlg (dT D 9 n) 0 fu σ D' h hs0 hn hH (by omega) hfu (fun τ D'' c1 c2 c3 c4 _ => K τ D'' mo c1 (fun _ _ => rfl) c2 ⟨fun k hk => c3 k (by omega) (by omega), fun c hc => ?_⟩)
    have e := c4 c (fun k _ b => hc k (by omega))
    rw [e]
    refine ⟨fun k hk ek => ?_, fun q => T2 c (fun k hk => q k (by omega))⟩
    rw [← ek]
    exact T1 k (by omega)
  | succ j ih =>
    intro i f σ D' mo h hmo hs hn hH hi hf T1 T2 K
    obtain ⟨f, rfl⟩ : ∃ q, f = q + 1 := ⟨f - 1, by omega⟩
    have hs0 := hs
    obtain ⟨s1, s2, s3, s4, s5, s6, s7, s8, s9⟩ := hs
    have L := h.lay
    have o5 := h.old.1
    rw [s4, s5, if_neg (by omega), ← hn, s2] at o5
    have nl : dL D' < n := by rw [s4]; omega
    have nh : n ≤ dH D' := by rw [s5]; exact hH
    obtain ⟨pl, t⟩ := h.tx nl nh
    have t0 := t
    obtain ⟨b8, b9, b2, b3, b4⟩ := tx_8 t
    rw [s2] at b8 b9 b2 b3 b4
    obtain ⟨k1, k2, k3, k4, k5, k6, k7⟩ := t
    obtain ⟨⟨v1, v2⟩, v3, v4, -⟩ := k6 i (by rw [s2]; omega)
    rw [s2] at k1 k2 k3 k4 v1 v3
    rw [s3] at v1 v2 v3 v4
    have cO : ∀ {β : Type} (k : Option β), ckO b0 σ (dT D 0 n) 7 k = k := fun k => ckO_p k1.1 ⟨by have := k2.1.1; omega, k2.1.2.1⟩
    have r5 : ∀ {β : Type} (k : Nat → Option β), ckR b0 σ (dT D 5 n) 0 k = k (dT D 8 n) := fun k => by
      have := (ckR_tx (k := k) t0).1
      rwa [s2] at this
    have r6 : ∀ {β : Type} (k : Nat → Option β), ckR b0 σ (dT D 6 n) 4 k = k (dT D 8 n) := fun k => by
      have := (ckR_tx (k := k) t0).2.1
      rwa [s2] at this
    unfold L_X1_fold_20
    rw [ltb_def, ckC_20 L, o5, omt_some, cO, osm_p k4.1, r5, if_l b8 (by omega), if_neg (by omega), omt_some, cO, osm_p k4.1, r5, ckI_n (by omega) b8, omt_some, cO, osm_p k4.2.1, r6, ckI_n (by omega) b8, nI_cl (by omega), v3, omt_some, v1]
    have g0 := CG_frT h nl nh (by rw [hmo, s2]; omega)
    rw [hmo, s3] at g0
    have g := setBaseS_c (fu := fu) g0 v2
    rw [upz_m] at g
    refine wp_bind (FC_good b0) g ?_
    intro _ ρ q
    obtain ⟨e1, e2⟩ := sJ_sb (D := D') (c := dX D 0 n i) (v := some (dX D 1 n i))
    rw [ltb_def, ofi]
    refine ih (i + 1) f ρ _ _ (CG_z (z' := z) q (fun k hk => by omega)) (upz_m _ _ _) (sJ_t hs0 e1) hn hH (by omega) (by omega) (fun k hk => ?_) (fun c hc => ?_) (fun τ D'' mo' c1 c2 c3 c4 => K τ D'' mo' c1 (fun n' hn' => by rw [c2 n' hn']; exact if_neg hn') c3 c4)
    · rw [e2]
      by_cases d : k = i
      · rw [d, if_pos rfl]
      · rw [if_neg (fun e => d (hdi k i (by omega) (by omega) e)), T1 k (by omega)]
    · rw [e2, if_neg (fun e => hc i (by omega) e.symm), T2 c (fun k hk => hc k (by omega))]
end FLF
