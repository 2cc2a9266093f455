/-! ===== PURE: the journal's fold ===== -/
/-- a place in the log, kept in it -/
def wrC (C : tS) (p : Nat) : Nat := if 0 < C 20 8 then p % C 20 8 else 0
section FLE
variable {b0 fu : Nat} {σ τ ρ : tM} {C C' : tS} {D D' : tD} {pl : Nat → Nat × Nat} {mo z : Nat → Nat} {m n : Nat}
theorem wrap_c {p : Nat} (h : CA b0 σ C) (hp : p < 2147483648) : m_X1_wrap b0 fu (b0 + 20) (nI p) σ = some (nI (wrC C p), σ) := by
  have b := cb_20 h 8
  unfold m_X1_wrap J_X1_wrap_20 J_X1_wrap_21 wrC
  rw [ckC_20 h.lay, cf_20_8 h]
  show grw σ (if nI (C 20 8) ≤ nI 0 then _ else if nI p < nI 0 then _ else _) = _
  rw [if_l b (by omega), if_t hp (by omega), if_neg (show ¬ p < 0 by omega)]
  by_cases c : C 20 8 ≤ 0
  · rw [if_pos c, if_neg (by omega)]
    exact grw_same
  · rw [if_neg c, if_pos (by omega), ckD_p (fun e => by
      have e : nI (C 20 8) = nI 0 := e
      rw [nI_eq b (by omega)] at e
      omega), nI_dv hp (by omega) b, pk_mul, nI_md hp (by omega) b]
    exact grw_same
/-- the first transaction, taken into the base, leaves the list -/
theorem CG_unl (h : CG b0 σ C D mo z m) (hn : n = dL D + 1) (hH : n ≤ dH D) : CG b0 (sA σ (b0 + 20) 5 (if n = dH D then none else some (dT D 0 (n + 1)))) C (dL1 D) mo z m ∧ NR b0 σ (sA σ (b0 + 20) 5 (if n = dH D then none else some (dT D 0 (n + 1)))) := by
  obtain ⟨h1, h2, h3, pl, ⟨g1, ⟨g2, g3⟩, ⟨g4, g5, g6, g7⟩, g8⟩, gz⟩ := h
  have nn : NR b0 σ (sA σ (b0 + 20) 5 (if n = dH D then none else some (dT D 0 (n + 1)))) := NR_2 (Or.inl (Or.inr (Or.inr (Or.inr ⟨rfl, by decide, by decide⟩))))
  refine ⟨⟨nn.ca h1, FC_rf (nn.fc h2) h2, by rw [nn.psi h2, nn.1, nn.2.1]; exact h3, pl, ⟨fun o j q => ⟨?_, fun x e => ⟨nn.row ((g1 o j q).2 x e).1, ((g1 o j q).2 x e).2⟩⟩, ⟨?_, fun k hk => ?_⟩, ⟨(by show dL D + 1 ≤ dH D; omega), g5, ?_, ?_⟩, fun n' a1 a2 => ?_⟩, fun k hk => ⟨nn.row (gz k hk).1, (gz k hk).2⟩⟩, nn⟩
  · rw [rd_A1 _ _ _ _ (by rcases q with q | q | q <;> omega)]
    exact (g1 o j q).1
  · rw [rd_AA, if_pos rfl, if_neg (by decide)]
    exact g2
  · obtain ⟨r1, r2, r3⟩ := g3 k hk
    refine ⟨nn.row r1, r2, ?_⟩
    show tA _ (dS D k) 1 = _
    rw [rd_A1 _ _ _ _ (by have := r1.2.2.2.1.1; omega)]
    exact r3
  · rw [rd_AA, if_pos rfl, if_pos rfl, hn]
    rfl
  · rw [rd_AA, if_pos rfl, if_neg (by decide)]
    show dL D + 1 = dH D ∨ _
    rcases g7 with q | q
    · omega
    · exact Or.inr q
  · have a1 : dL D + 1 < n' := a1
    have t := g8 n' (by omega) a2
    exact nn.tm (D' := dL1 D) t rfl rfl rfl rfl (fun k hk hm => (t.2.2.2.2.2.1 k hk).2.2.2 hm)
/-- what the fold of one transaction leaves in the class's cells -/
def fdC (C : tS) (D : tD) (n : Nat) : tS := up2 (up2 C 20 9 (C 20 9 - dT D 4 n)) 20 11 (wrC C (dT D 3 n + dT D 4 n))
/-- what it leaves in the base -/
def fdB (D D' : tD) (n : Nat) : Prop := (∀ k, k < dT D 9 n → dP D' 21 (dX D 2 n k) = none) ∧ (∀ c, (∀ k, k < dT D 9 n → dX D 2 n k ≠ c) → (∀ k, k < dT D 8 n → dX D 0 n k = c → dP D' 21 c = some (dX D 1 n k)) ∧ ((∀ k, k < dT D 8 n → dX D 0 n k ≠ c) → dP D' 21 c = dP D 21 c))
theorem fold62 {x1 : Int32} {rc0 : Nat → Int32 → tM → Option (Unit × tM)} {Q : Unit → tM → Prop} (hu9 : dT D 4 n ≤ C 20 9) (hlg : dT D 3 n + dT D 4 n < 2147483648) : ∀ j i f σ D', CG b0 σ C D' mo z 0 → sJ D D' → n = dL D + 1 → n ≤ dH D → i + j = dT D 9 n → j < f →
    (∀ τ D'', CG b0 τ (fdC C D n) (dL1 D'') mo z 0 → sJ D D'' → (∀ k, i ≤ k → k < i + j → dP D'' 21 (dX D 2 n k) = none) → (∀ c, (∀ k, i ≤ k → k < i + j → dX D 2 n k ≠ c) → dP D'' 21 c = dP D' 21 c) → (∀ k, k < i → dP D' 21 (dX D 2 n k) = none → dP D'' 21 (dX D 2 n k) = none) → wp (FC b0) τ (rc0 (b0 + 20) x1 τ) Q) →
    wp (FC b0) σ (L_X1_fold_62 b0 fu rc0 f (b0 + 20) x1 (nI i) σ) Q := by
  intro j
  induction j with
  | zero =>
    intro i f σ D' h hs hn hH hi hf K
    obtain ⟨f, rfl⟩ : ∃ q, f = q + 1 := ⟨f - 1, by omega⟩
    have hs0 := hs
    obtain ⟨s1, s2, s3, s4, s5, s6, s7, s8, s9⟩ := hs
    have L := h.lay
    have o5 := h.old.1
    rw [s4, s5, if_neg (by omega), ← hn, s2] at o5
    obtain ⟨pl, t⟩ := h.tx (n := n) (by rw [s4]; omega) (by rw [s5]; exact hH)
    have t0 := t
    obtain ⟨b8, b9, b2, b3, b4⟩ := tx_8 t
    rw [s2] at b8 b9 b2 b3 b4
    obtain ⟨k1, k2, k3, k4, k5, k6, k7⟩ := t
    rw [s2] at k1 k2 k3 k4
    have cO : ∀ {β : Type} (k : Option β) (ρ : tM), tk ρ = tk σ → tn ρ = tn σ → ckO b0 ρ (dT D 0 n) 7 k = k := fun k ρ e1 e2 => ckO_p (by rw [e1]; exact k1.1) ⟨by have := k2.1.1; omega, by rw [e2]; exact k2.1.2.1⟩
    unfold L_X1_fold_62
    have r7 : ∀ {β : Type} (k : Nat → Option β), ckR b0 σ (dT D 7 n) 0 k = k (dT D 9 n) := fun k => by
      have := (ckR_tx (k := k) t0).2.2
      rwa [s2] at this
    rw [ltb_def, ckC_20 L, o5, omt_some, cO _ σ rfl rfl, osm_p k4.2.2.1, r7, if_l b9 (by omega), if_pos (by omega), omt_some, cO _ σ rfl rfl]
    have nd0 : dT D 0 n ≠ b0 + 20 := by have := k2.1.1; omega
    rw [cf_20_9 h.ca, k3.2.2.2, nI_sb hu9]
    have g1 : CG b0 (sI σ (b0 + 20) 9 (nI (C 20 9 - dT D 4 n))) (up2 C 20 9 (C 20 9 - dT D 4 n)) D' mo z 0 := CG_fix (o := 20) h rfl rfl (by have := cb_20 h.ca 9; show _ < 2147483648; omega)
    have a1 : tA (sI σ (b0 + 20) 9 (nI (C 20 9 - dT D 4 n))) = tA σ := rfl
    have i1 : ∀ q, tI (sI σ (b0 + 20) 9 (nI (C 20 9 - dT D 4 n))) (dT D 0 n) q = tI σ (dT D 0 n) q := fun q => by rw [rd_I1 _ _ _ _ nd0]
    rw [a1, o5, omt_some, cO _ (sI σ (b0 + 20) 9 (nI (C 20 9 - dT D 4 n))) rfl rfl, omt_some, cO _ (sI σ (b0 + 20) 9 (nI (C 20 9 - dT D 4 n))) rfl rfl, i1, i1, k3.2.2.1, k3.2.2.2, nI_add, wrap_c g1.ca hlg, cll_some]
    have w1 : wrC (up2 C 20 9 (C 20 9 - dT D 4 n)) (dT D 3 n + dT D 4 n) = wrC C (dT D 3 n + dT D 4 n) := by
      unfold wrC
      rw [up2_j (by decide)]
    rw [w1]
    have L1 := g1.lay
    have g2 : CG b0 (sI (sI σ (b0 + 20) 9 (nI (C 20 9 - dT D 4 n))) (b0 + 20) 11 (nI (wrC C (dT D 3 n + dT D 4 n)))) (fdC C D n) D' mo z 0 := CG_fix (o := 20) g1 rfl rfl (by
      show wrC C (dT D 3 n + dT D 4 n) < 2147483648
      unfold wrC
      split
      · exact Nat.lt_of_le_of_lt (Nat.mod_le _ _) hlg
      · omega)
    have a2 : tA (sI (sI σ (b0 + 20) 9 (nI (C 20 9 - dT D 4 n))) (b0 + 20) 11 (nI (wrC C (dT D 3 n + dT D 4 n)))) = tA σ := rfl
    rw [ckC_20 L1, a2, o5, omt_some, cO _ (sI (sI σ (b0 + 20) 9 (nI (C 20 9 - dT D 4 n))) (b0 + 20) 11 (nI (wrC C (dT D 3 n + dT D 4 n)))) rfl rfl, k4.2.2.2, s5]
    obtain ⟨u1, u2⟩ := CG_unl (n := n) g2 (by rw [s4]; exact hn) (by rw [s5]; exact hH)
    rw [s5, s2] at u1 u2
    have fin := wp_from (FC_good b0) (FC_2 (FC_sI h.rf (by omega)) (FC_2 (FC_sI g1.rf (by omega)) (u2.fc g2.rf))) (K _ D' u1 hs0 (fun k a b => by omega) (fun c _ => rfl) (fun k _ q => q))
    by_cases e : n = dH D
    · rw [if_pos e, omt_none]
      rw [if_pos e] at fin
      exact fin
    · rw [if_neg e, omt_some]
      rw [if_neg e] at fin
      exact fin
  | succ j ih =>
    intro i f σ D' h hs hn hH hi hf K
    obtain ⟨f, rfl⟩ : ∃ q, f = q + 1 := ⟨f - 1, by omega⟩
    have hs0 := hs
    obtain ⟨s1, s2, s3, s4, s5, s6, s7, s8, s9⟩ := hs
    have L := h.lay
    have o5 := h.old.1
    rw [s4, s5, if_neg (by omega), ← hn, s2] at o5
    obtain ⟨pl, t⟩ := h.tx (n := n) (by rw [s4]; omega) (by rw [s5]; exact hH)
    have t0 := t
    obtain ⟨b8, b9, b2, b3, b4⟩ := tx_8 t
    rw [s2] at b8 b9 b2 b3 b4
    obtain ⟨k1, k2, k3, k4, k5, k6, k7⟩ := t
    rw [s2] at k1 k2 k3 k4 k7
    rw [s3] at k7
    obtain ⟨v1, v2⟩ := k7 i (by omega)
    have cO : ∀ {β : Type} (k : Option β), ckO b0 σ (dT D 0 n) 7 k = k := fun k => ckO_p k1.1 ⟨by have := k2.1.1; omega, k2.1.2.1⟩
    have r7 : ∀ {β : Type} (k : Nat → Option β), ckR b0 σ (dT D 7 n) 0 k = k (dT D 9 n) := fun k => by
      have := (ckR_tx (k := k) t0).2.2
      rwa [s2] at this
    unfold L_X1_fold_62
    rw [ltb_def, ckC_20 L, o5, omt_some, cO, osm_p k4.2.2.1, r7, if_l b9 (by omega), if_neg (by omega), omt_some, cO, osm_p k4.2.2.1, r7, ckI_n (by omega) b9, nI_cl (by omega), v1]
    refine wp_bind (FC_good b0) (setBaseN_c (fu := fu) h v2) ?_
    rintro _ ρ ⟨q, -⟩
    obtain ⟨e1, e2⟩ := sJ_sb (D := D') (c := dX D 2 n i) (v := none)
    rw [ltb_def, ofi]
    refine ih (i + 1) f ρ _ q (sJ_t hs0 e1) hn hH (by omega) (by omega) (fun τ D'' c1 c2 c3 c4 c5 => K τ D'' c1 c2 (fun k a b => ?_) (fun c hc => ?_) (fun k a b => ?_))
    · by_cases d : k = i
      · rw [d]
        exact c5 i (by omega) (by rw [e2, if_pos rfl])
      · exact c3 k (by omega) (by omega)
    · rw [c4 c (fun k a b => hc k (by omega) (by omega)), e2, if_neg (fun e => hc i (by omega) (by omega) e.symm)]
    · refine c5 k (by omega) ?_
      rw [e2]
      split
      · rfl
      · exact b
end FLE
