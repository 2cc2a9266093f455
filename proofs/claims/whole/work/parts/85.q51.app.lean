/-! ===== PURE: the journal's append, whole ===== -/
section APQ
variable {b0 fu : Nat} {σ τ ρ : tM} {C C' : tS} {D D' D'' : tD} {pl : Nat → Nat × Nat} {mo z tl rl : Nat → Nat} {m n x T R t r c st at_ sz : Nat} {i0 : Nat → Int32}
theorem FC_low (h2 : rfO b0 σ) (h74 : 74 ≤ tn σ) (hn : tn σ ≤ tn τ) (hu : tu σ ≤ tu τ) (hs : ∀ a, a < b0 + tn σ → same σ τ a) : FC b0 σ τ := ⟨hn, hu, fun a ha => hs a (by
  rcases ha with q | q
  · exact (h2 a q).2.2
  · omega)⟩
theorem nwT_f : tn (nwT b0 σ n st at_ sz T R) = tn σ + 4 ∧ tu (nwT b0 σ n st at_ sz T R) = tu σ + (8 + T + T + R) ∧ (∀ a, a < b0 + tn σ → same σ (nwT b0 σ n st at_ sz T R) a) ∧
    (tk (nwT b0 σ n st at_ sz T R) (b0 + tn σ) = .inl 7 ∧ tk (nwT b0 σ n st at_ sz T R) (b0 + tn σ + 1) = .inr (0, T) ∧ tk (nwT b0 σ n st at_ sz T R) (b0 + tn σ + 2) = .inr (4, T) ∧ tk (nwT b0 σ n st at_ sz T R) (b0 + tn σ + 3) = .inr (0, R)) ∧
    (tA (nwT b0 σ n st at_ sz T R) (b0 + tn σ) 4 = some (b0 + tn σ + 1) ∧ tA (nwT b0 σ n st at_ sz T R) (b0 + tn σ) 5 = some (b0 + tn σ + 2) ∧ tA (nwT b0 σ n st at_ sz T R) (b0 + tn σ) 6 = some (b0 + tn σ + 3) ∧ tA (nwT b0 σ n st at_ sz T R) (b0 + tn σ) 7 = none) ∧
    (tI (nwT b0 σ n st at_ sz T R) (b0 + tn σ) 0 = nI n ∧ tI (nwT b0 σ n st at_ sz T R) (b0 + tn σ) 1 = nI st ∧ tI (nwT b0 σ n st at_ sz T R) (b0 + tn σ) 2 = nI at_ ∧ tI (nwT b0 σ n st at_ sz T R) (b0 + tn σ) 3 = nI sz) := by
  generalize hx : b0 + tn σ = x
  have e : nwT b0 σ n st at_ sz T R = sA (sN (sA (sN (sA (sN (sI (sI (sI (sI (sN σ x (.inl 7) 8) x 0 (nI n)) x 1 (nI st)) x 2 (nI at_)) x 3 (nI sz)) (x + 1) (.inr (0, T)) T) x 4 (some (x + 1))) (x + 2) (.inr (4, T)) T) x 5 (some (x + 2))) (x + 3) (.inr (0, R)) R) x 6 (some (x + 3)) := by
    unfold nwT
    rw [hx]
  rw [e]
  have kA : ∀ (ρ : tM) a j v y, tk (sA ρ a j v) y = tk ρ y := fun _ _ _ _ _ => rfl
  have kI : ∀ (ρ : tM) a j v y, tk (sI ρ a j v) y = tk ρ y := fun _ _ _ _ _ => rfl
  have iA : ∀ (ρ : tM) a j v y, tI (sA ρ a j v) y = tI ρ y := fun _ _ _ _ _ => rfl
  have aI : ∀ (ρ : tM) a j v y, tA (sI ρ a j v) y = tA ρ y := fun _ _ _ _ _ => rfl
  refine ⟨rfl, ?_, fun a ha => ?_, ⟨?_, ?_, ?_, ?_⟩, ⟨?_, ?_, ?_, ?_⟩, ⟨?_, ?_, ?_, ?_⟩⟩
  · show tu σ + 8 + T + T + R = _
    omega
  · have s1 : ∀ (ρ : tM) j v, same ρ (sA ρ x j v) a := fun ρ j v => same_sA (by omega)
    have s2 : ∀ (ρ : tM) j v, same ρ (sI ρ x j v) a := fun ρ j v => same_sI (by omega)
    have s3 : ∀ (ρ : tM) y q w, x ≤ y → same ρ (sN ρ y q w) a := fun ρ y q w hy => same_sN (by omega)
    exact same_t (s3 _ _ _ _ (Nat.le_refl _)) (same_t (s2 _ _ _) (same_t (s2 _ _ _) (same_t (s2 _ _ _) (same_t (s2 _ _ _) (same_t (s3 _ _ _ _ (by omega)) (same_t (s1 _ _ _) (same_t (s3 _ _ _ _ (by omega)) (same_t (s1 _ _ _) (same_t (s3 _ _ _ _ (by omega)) (s1 _ _ _))))))))))
  · rw [kA, rd_kN, if_neg (by omega), kA, rd_kN, if_neg (by omega), kA, rd_kN, if_neg (by omega), kI, kI, kI, kI, rd_kN, if_pos rfl]
  · rw [kA, rd_kN, if_neg (by omega), kA, rd_kN, if_neg (by omega), kA, rd_kN, if_pos rfl]
  · rw [kA, rd_kN, if_neg (by omega), kA, rd_kN, if_pos rfl]
  · rw [kA, rd_kN, if_pos rfl]
  · rw [rd_AA, if_pos rfl, if_neg (by decide), rd_AN, if_neg (by omega), rd_AA, if_pos rfl, if_neg (by decide), rd_AN, if_neg (by omega), rd_AA, if_pos rfl, if_pos rfl]
  · rw [rd_AA, if_pos rfl, if_neg (by decide), rd_AN, if_neg (by omega), rd_AA, if_pos rfl, if_pos rfl]
  · rw [rd_AA, if_pos rfl, if_pos rfl]
  · rw [rd_AA, if_pos rfl, if_neg (by decide), rd_AN, if_neg (by omega), rd_AA, if_pos rfl, if_neg (by decide), rd_AN, if_neg (by omega), rd_AA, if_pos rfl, if_neg (by decide), rd_AN, if_neg (by omega), aI, aI, aI, aI, rd_AN, if_pos rfl]
  · rw [iA, rd_IN, if_neg (by omega), iA, rd_IN, if_neg (by omega), iA, rd_IN, if_neg (by omega), rd_II, if_pos rfl, if_neg (by decide), rd_II, if_pos rfl, if_neg (by decide), rd_II, if_pos rfl, if_neg (by decide), rd_II, if_pos rfl, if_pos rfl]
  · rw [iA, rd_IN, if_neg (by omega), iA, rd_IN, if_neg (by omega), iA, rd_IN, if_neg (by omega), rd_II, if_pos rfl, if_neg (by decide), rd_II, if_pos rfl, if_neg (by decide), rd_II, if_pos rfl, if_pos rfl]
  · rw [iA, rd_IN, if_neg (by omega), iA, rd_IN, if_neg (by omega), iA, rd_IN, if_neg (by omega), rd_II, if_pos rfl, if_neg (by decide), rd_II, if_pos rfl, if_pos rfl]
  · rw [iA, rd_IN, if_neg (by omega), iA, rd_IN, if_neg (by omega), iA, rd_IN, if_neg (by omega), rd_II, if_pos rfl, if_pos rfl]
/-- the new transaction comes behind the others -/
theorem CG_link (h : CG b0 σ C D mo0 z T) (hm : MKt b0 σ x T R T R tl rl z i0) (i1 : i0 0 = nI (dH D + 1)) (i2 : i0 1 = nI st) (i3 : i0 2 = nI at_) (i4 : i0 3 = nI sz) (hl : lowT D x) (h6 : dL D = dH D → tA σ (b0 + 20) 6 = none) (hH : dH D + 1 < 2147483648) (hb : st < 2147483648 ∧ at_ < 2147483648 ∧ sz < 2147483648 ∧ T < 2147483648 ∧ R < 2147483648) (ht : ∀ k, k < T → tl k < 2034) (hr : ∀ k, k < R → rl k < 2034) {ρ : tM}
    (hρ : ρ = if dL D = dH D then sA σ (b0 + 20) 5 (some x) else sA σ (dT D 0 (dH D)) 7 (some x)) : CM b0 (sA ρ (b0 + 20) 6 (some x)) C (adT D x st at_ sz T R tl z rl) ∧ FC b0 σ (sA ρ (b0 + 20) 6 (some x)) := by
  have hz := fun k hk => h.zrow (k := k) hk
  obtain ⟨h1, h2, h3, pl, ⟨g1, ⟨g2, g3⟩, ⟨g4, g5, g6, g7⟩, g8⟩, gz⟩ := h
  obtain ⟨⟨m1, m2, m3, m4⟩, ⟨m5, m6, m7, m8, m9⟩, ⟨a1, a2, a3, a4, a5, a6⟩, l1, l2⟩ := hm
  -- the last one's object
  have lst : dL D ≠ dH D → tk σ (dT D 0 (dH D)) = .inl 7 ∧ isO b0 σ (dT D 0 (dH D)) ∧ dT D 0 (dH D) < x := fun q => by
    have t := g8 (dH D) (by omega) (Nat.le_refl _)
    exact ⟨t.1.1, t.2.1.1, (hl (dH D) (by omega) (Nat.le_refl _)).1⟩
  generalize hτ : sA ρ (b0 + 20) 6 (some x) = τ
  have tnτ : tn τ = tn σ ∧ tu τ = tu σ ∧ tk τ = tk σ ∧ tI τ = tI σ ∧ tL τ = tL σ := by
    rw [← hτ, hρ]
    split <;> exact ⟨rfl, rfl, rfl, rfl, rfl⟩
  obtain ⟨t1, t2, t3, t4, t5⟩ := tnτ
  have tA' : ∀ y j, y ≠ b0 + 20 → (dL D ≠ dH D → ¬ (y = dT D 0 (dH D) ∧ j = 7)) → tA τ y j = tA σ y j := fun y j y1 y2 => by
    rw [← hτ, rd_A1 _ _ _ _ y1, hρ]
    by_cases c : dL D = dH D
    · rw [if_pos c, rd_A1 _ _ _ _ y1]
    · rw [if_neg c, rd_AA]
      by_cases d : y = dT D 0 (dH D)
      · rw [if_pos d, if_neg (fun e => y2 c ⟨d, e⟩)]
      · rw [if_neg d]
  have t20 : ∀ j, tA τ (b0 + 20) j = if j = 6 then some x else if j = 5 ∧ dL D = dH D then some x else tA σ (b0 + 20) j := fun j => by
    rw [← hτ, rd_AA, if_pos rfl]
    by_cases c6 : j = 6
    · rw [if_pos c6, if_pos c6]
    · rw [if_neg c6, if_neg c6, hρ]
      by_cases c : dL D = dH D
      · rw [if_pos c, rd_AA, if_pos rfl]
        by_cases c5 : j = 5
        · rw [if_pos c5, if_pos ⟨c5, c⟩]
        · rw [if_neg c5, if_neg (fun e => c5 e.1)]
      · rw [if_neg c, if_neg (fun e => c e.2), rd_A1 _ _ _ _ (by have := (lst c).2.1.1; omega)]
  have a35 : tA τ (b0 + 35) = tA σ (b0 + 35) := funext (fun j => tA' _ _ (by omega) (fun c e => (lst c).2.1.2.2.2 (e.1 ▸ refO_f 35 (by omega) (by omega))))
  have rf : ∀ a, refO b0 τ a ↔ refO b0 σ a := fun a => by unfold refO; rw [a35]
  have fc : FC b0 σ τ := ⟨by omega, by omega, fun a ha => ⟨by rw [t3], by rw [t4], by rw [t5], funext (fun j => tA' a j (by
      rcases ha with q | q
      · have := (h2 a q).1; omega
      · omega) (fun c e => by
      rcases ha with q | q
      · exact (lst c).2.1.2.2.2 (e.1 ▸ q)
      · have := (lst c).2.1.2.2.1; omega))⟩⟩
  have row : ∀ a w, isRow b0 σ a w → isRow b0 τ a w := fun a w r => by
    obtain ⟨r1, r2, r3, r4, r5, r6⟩ := r
    refine ⟨by rw [t3]; exact r1, by rw [t3]; exact r2, ?_, by rw [t1]; exact r4, ⟨fun q => r5.1 ((rf _).mp q), fun q => r5.2 ((rf _).mp q)⟩, fun j => by rw [t5]; exact r6 j⟩
    rw [tA' a 0 (by omega) (fun _ e => by have := e.2; omega)]
    exact r3
  have io : ∀ a, isO b0 σ a → isO b0 τ a := fun a q => ⟨q.1, by rw [t1]; exact q.2.1, q.2.2.1, fun r => q.2.2.2 ((rf a).mp r)⟩
  have dTn : ∀ f n, n ≤ dH D → dT (adT D x st at_ sz T R tl z rl) f n = dT D f n := fun f n hn => by
    show (if n = dH D + 1 then _ else dT D f n) = _
    rw [if_neg (by omega)]
  have dXn : ∀ f n k, n ≤ dH D → dX (adT D x st at_ sz T R tl z rl) f n k = dX D f n k := fun f n k hn => by
    show (if n = dH D + 1 then _ else dX D f n k) = _
    rw [if_neg (by omega)]
  have dTx : ∀ f, dT (adT D x st at_ sz T R tl z rl) f (dH D + 1) = (if f = 0 then x else if f = 2 then st else if f = 3 then at_ else if f = 4 then sz else if f = 5 then x + 1 else if f = 6 then x + 2 else if f = 7 then x + 3 else if f = 8 then T else if f = 9 then R else 0) := fun f => by
    show (if dH D + 1 = dH D + 1 then _ else dT D f (dH D + 1)) = _
    rw [if_pos rfl]
  have dXx : ∀ f k, dX (adT D x st at_ sz T R tl z rl) f (dH D + 1) k = (if f = 0 then tl k else if f = 1 then z k else rl k) := fun f k => by
    show (if dH D + 1 = dH D + 1 then _ else dX D f (dH D + 1) k) = _
    rw [if_pos rfl]
  have eH : dH (adT D x st at_ sz T R tl z rl) = dH D + 1 := rfl
  have zi : ∀ k, k < T → ∃ q, q < T ∧ z k = z q ∧ pl (z k) = (0, q) := fun k hk => ⟨k, hk, rfl, (gz k hk).2⟩
  let pl' : Nat → Nat × Nat := fun a => if (pl a).1 = 0 ∧ (pl a).2 < T then (1000 + (dH D + 1), (pl a).2) else pl a
  have p1 : ∀ a, (pl a).1 ≠ 0 → pl' a = pl a := fun a q => if_neg (fun e => q e.1)
  have p2 : ∀ k, k < T → pl' (z k) = (1000 + (dH D + 1), k) := fun k hk => by
    show (if (pl (z k)).1 = 0 ∧ (pl (z k)).2 < T then (1000 + (dH D + 1), (pl (z k)).2) else pl (z k)) = _
    rw [(gz k hk).2, if_pos ⟨rfl, hk⟩]
  refine ⟨⟨?_, FC_rf fc h2, by rw [FC_psi fc, t1, t2]; exact h3, pl', fun o j q => ⟨?_, fun a e => ?_⟩, ⟨?_, fun k hk => ?_⟩, ⟨?_, ?_, ?_, ?_⟩, fun n n1 n2 => ?_⟩, fc⟩
  · refine CA_same h1 (layC_of h1.lay (by omega) (fun a _ => by rw [t3]) ?_) (fun o _ => by rw [t4]) (by rw [t5])
    have e : ∀ (p j : Nat), p < 33 → p ≠ 20 → tA τ (b0 + p) j = tA σ (b0 + p) j := fun p j q1 q2 => tA' _ _ (by omega) (fun c e => by have := (lst c).2.1.1; omega)
    have e20 : ∀ (j : Nat), j < 5 → tA τ (b0 + 20) j = tA σ (b0 + 20) j := fun j hj => by rw [t20, if_neg (by omega), if_neg (by omega)]
    repeat' apply And.intro
    all_goals first | exact e _ _ (by decide) (by decide) | exact e20 _ (by decide)
  · rw [tA' _ _ (by rcases q with q | q | q <;> omega) (fun c e => by have := (lst c).2.1.1; rcases q with q | q | q <;> omega)]
    exact (g1 o j q).1
  · obtain ⟨r1, r2⟩ := (g1 o j q).2 a e
    refine ⟨row _ _ r1, ?_⟩
    rw [p1 a (by rw [r2]; show o ≠ 0; rcases q with q | q | q <;> omega)]
    exact r2
  · rw [t20, if_neg (by decide), if_neg (by omega)]
    exact g2
  · obtain ⟨r1, r2, r3⟩ := g3 k hk
    refine ⟨row _ _ r1, ?_, ?_⟩
    · show pl' (dS D k) = _
      rw [p1 _ (by rw [r2]; show (100 : Nat) ≠ 0; omega)]
      exact r2
    · show tA τ (dS D k) 1 = _
      rw [tA' _ _ (by have := r1.2.2.2.1.1; omega) (fun _ e => by have := e.2; omega)]
      exact r3
  · show dL D ≤ dH D + 1
    omega
  · exact hH
  · rw [t20, if_neg (by decide)]
    show _ = if dL D = dH D + 1 then none else some (dT (adT D x st at_ sz T R tl z rl) 0 (dL D + 1))
    rw [if_neg (show ¬ dL D = dH D + 1 by omega)]
    by_cases c : dL D = dH D
    · rw [if_pos ⟨rfl, c⟩, c, dTx, if_pos rfl]
    · rw [if_neg (fun e => c e.2), g6, if_neg c, dTn 0 _ (by omega)]
  · rw [t20, if_pos rfl]
    show _ = if dL D = dH D + 1 then none else some (dT (adT D x st at_ sz T R tl z rl) 0 (dH D + 1))
    rw [if_neg (show ¬ dL D = dH D + 1 by omega), dTx, if_pos rfl]
  · have n2 : n ≤ dH D + 1 := n2
    have n1 : dL D < n := n1
    by_cases c : n = dH D + 1
    · subst c
      have iox : ∀ y, x ≤ y → y ≤ x + 3 → ¬ refO b0 σ y → isO b0 τ y := fun y q1 q2 q3 => ⟨by omega, by rw [t1]; omega, by omega, fun r => q3 ((rf y).mp r)⟩
      have ax : ∀ j, tA τ x j = tA σ x j := fun j => tA' _ _ (by omega) (fun c e => by have := (lst c).2.2; omega)
      have ax2 : ∀ j, tA τ (x + 2) j = tA σ (x + 2) j := fun j => tA' _ _ (by omega) (fun c e => by have := (lst c).2.2; omega)
      have d0 : dT (adT D x st at_ sz T R tl z rl) 0 (dH D + 1) = x := by rw [dTx]; rfl
      have d2 : dT (adT D x st at_ sz T R tl z rl) 2 (dH D + 1) = st := by rw [dTx]; rfl
      have d3 : dT (adT D x st at_ sz T R tl z rl) 3 (dH D + 1) = at_ := by rw [dTx]; rfl
      have d4 : dT (adT D x st at_ sz T R tl z rl) 4 (dH D + 1) = sz := by rw [dTx]; rfl
      have d5 : dT (adT D x st at_ sz T R tl z rl) 5 (dH D + 1) = x + 1 := by rw [dTx]; rfl
      have d6 : dT (adT D x st at_ sz T R tl z rl) 6 (dH D + 1) = x + 2 := by rw [dTx]; rfl
      have d7 : dT (adT D x st at_ sz T R tl z rl) 7 (dH D + 1) = x + 3 := by rw [dTx]; rfl
      have d8 : dT (adT D x st at_ sz T R tl z rl) 8 (dH D + 1) = T := by rw [dTx]; rfl
      have d9 : dT (adT D x st at_ sz T R tl z rl) 9 (dH D + 1) = R := by rw [dTx]; rfl
      unfold isTx
      rw [eH, d0, d2, d3, d4, d5, d6, d7, d8, d9, t3, t4, ax, ax, ax, ax, m9, i1, i2, i3, i4, if_pos rfl]
      refine ⟨⟨m1, m2, m3, m4⟩, ⟨iox x (by omega) (by omega) a3, iox _ (by omega) (by omega) a4, iox _ (by omega) (by omega) a5, iox _ (by omega) (by omega) a6⟩, ⟨rfl, rfl, rfl, rfl⟩, ⟨m5, m6, m7, m8⟩, fun f => ?_, fun k hk => ?_, fun k hk => ?_⟩
      · rw [dTx]
        by_cases f0 : f = 0
        · exact Or.inr (Or.inl f0)
        by_cases f5 : f = 5
        · exact Or.inr (Or.inr (Or.inl f5))
        by_cases f6 : f = 6
        · exact Or.inr (Or.inr (Or.inr (Or.inl f6)))
        by_cases f7 : f = 7
        · exact Or.inr (Or.inr (Or.inr (Or.inr f7)))
        left
        rw [if_neg f0]
        split
        · exact hb.1
        split
        · exact hb.2.1
        split
        · exact hb.2.2.1
        split
        · exact hb.2.2.2.1
        split
        · exact hb.2.2.2.2
        · omega
      · have e0 : dX (adT D x st at_ sz T R tl z rl) 0 (dH D + 1) k = tl k := by rw [dXx]; rfl
        have e1 : dX (adT D x st at_ sz T R tl z rl) 1 (dH D + 1) k = z k := by rw [dXx]; rfl
        rw [e0, e1, ax2]
        exact ⟨⟨(l1 k hk).1, ht k hk⟩, (l1 k hk).2, row _ _ (hz k hk), p2 k hk⟩
      · have e2 : dX (adT D x st at_ sz T R tl z rl) 2 (dH D + 1) k = rl k := by rw [dXx]; rfl
        rw [e2]
        exact ⟨l2 k hk, hr k hk⟩
    · have t := g8 n n1 (by omega)
      obtain ⟨k1, k2, k3, k4, k5, k6, k7⟩ := t
      have hn : n ≤ dH D := by omega
      have a0 : ∀ j, j ≠ 7 → tA τ (dT D 0 n) j = tA σ (dT D 0 n) j := fun j hj => tA' _ _ (by have := k2.1.1; omega) (fun _ e => hj e.2)
      have a6 : ∀ j, tA τ (dT D 6 n) j = tA σ (dT D 6 n) j := fun j => tA' _ _ (by have := k2.2.2.1.1; omega) (fun c e => by
        have q := (lst c).1
        rw [← e.1, k1.2.2.1] at q
        cases q)
      unfold isTx
      rw [eH, dTn _ _ hn, dTn _ _ hn, dTn _ _ hn, dTn _ _ hn, dTn _ _ hn, dTn _ _ hn, dTn _ _ hn, dTn _ _ hn, dTn _ _ hn, t3, t4, a0 4 (by decide), a0 5 (by decide), a0 6 (by decide)]
      refine ⟨k1, ⟨io _ k2.1, io _ k2.2.1, io _ k2.2.2.1, io _ k2.2.2.2⟩, k3, ⟨k4.1, k4.2.1, k4.2.2.1, ?_⟩, fun f => by rw [dTn _ _ hn]; exact k5 f, fun k hk => ?_, fun k hk => by rw [dXn _ _ _ hn]; exact k7 k hk⟩
      · rw [if_neg (by omega)]
        by_cases d : n = dH D
        · have cc : dL D ≠ dH D := by omega
          rw [d, dTx, if_pos rfl, ← hτ, rd_A1 _ _ _ _ (by have := (lst cc).2.1.1; omega), hρ, if_neg cc, rd_AA, if_pos rfl, if_pos rfl]
        · rw [dTn _ _ (by omega), tA' _ _ (by have := k2.1.1; omega) (fun c e => by
            have q := (g8 (dH D) (by omega) (Nat.le_refl _)).2.2.1.1
            rw [← e.1, k3.1] at q
            have := (nI_eq (by omega) (by omega)).mp q
            omega), k4.2.2.2, if_neg d]
      · obtain ⟨v1, v2, v3, v4⟩ := k6 k hk
        rw [dXn _ _ _ hn, dXn _ _ _ hn, a6]
        refine ⟨v1, v2, row _ _ v3, ?_⟩
        rw [p1 _ (by rw [v4 (Nat.zero_le _)]; show 1000 + n ≠ 0; omega)]
        exact v4 (Nat.zero_le _)
end APQ
