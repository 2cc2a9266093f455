/-! ===== PURE: the reference walks ===== -/
/-- what is left of the path, in its array -/
def TD (b0 : Nat) (σ : tM) (tx : Nat → Nat) (s : Nat) : Prop := ∃ t u, tA σ (b0 + 35) 49 = some t ∧ tA σ (b0 + 35) 50 = some u ∧ ((t = b0 + 65 ∧ u = b0 + 66) ∨ (t = b0 + 66 ∧ u = b0 + 65)) ∧ ∀ i, i < s → tI σ t i = nI (tx i) ∧ tx i < 128
section RW
variable {b0 fu : Nat} {σ τ : tM} {A : Nat → Nat → Nat} {N : Nat} {J : tJ}
theorem ck65 (L : LayR b0 σ) {t : Nat} (h : t = b0 + 65 ∨ t = b0 + 66) : tk σ t = .inr (1, 2048) ∧ b0 ≤ t ∧ t < b0 + tn σ := by
  have := L.1
  rcases h with rfl | rfl
  · exact ⟨rkR65 L, by omega, by omega⟩
  · exact ⟨rkR66 L, by omega, by omega⟩
theorem behind_loop (h : RA b0 σ A) {tx : Nat → Nat} (ht : TD b0 σ tx (A 35 51)) (hs : A 35 51 ≤ 2048) : ∀ m k f, k + m = A 35 51 → m < f → L_X12_behind_2 b0 fu f (b0 + 35) (nI k) σ = some (nI (sr (fun i => tx i != 47) k m), σ) := by
  have L := h.lay
  obtain ⟨t, u, t1, -, t3, t4⟩ := ht
  obtain ⟨k1, k2⟩ := ck65 L (t := t) (by rcases t3 with q | q <;> simp [q.1])
  intro m
  induction m with
  | zero =>
    intro k f hk hf
    obtain ⟨f, rfl⟩ : ∃ q, f = q + 1 := ⟨f - 1, by omega⟩
    unfold L_X12_behind_2
    rw [ltb_def, ckR_35 L, rf_51 h, if_l (by omega) (by omega), if_pos (by omega)]
    rfl
  | succ m ih =>
    intro k f hk hf
    obtain ⟨f, rfl⟩ : ∃ q, f = q + 1 := ⟨f - 1, by omega⟩
    obtain ⟨c1, c2⟩ := t4 k (by omega)
    unfold L_X12_behind_2
    rw [ltb_def, ckR_35 L, rf_51 h, if_l (by omega) (by omega), if_neg (by omega), osm_p t1, ckR_p k1 k2, ckI_n (by omega) (by omega), nI_cl (by omega), c1]
    show (if nI (tx k) = nI 47 then _ else _) = _
    rw [if_e (by omega) (by omega), ltb_def, ofi, ih (k + 1) f (by omega) (by omega)]
    by_cases e : tx k = 47
    · rw [if_pos e]; simp [sr, e]
    · rw [if_neg e]; simp [sr, e, J_X12_behind_27]
theorem behind_eq (h : RA b0 σ A) {tx : Nat → Nat} (ht : TD b0 σ tx (A 35 51)) (hs : A 35 51 ≤ 2048) {k : Nat} (hk : k ≤ A 35 51) (hu : 10000 ≤ fu) : m_X12_behind b0 fu (b0 + 35) (nI k) σ = some (nI (sr (fun i => tx i != 47) k (A 35 51 - k)), σ) := by
  unfold m_X12_behind
  rw [behind_loop h ht hs (A 35 51 - k) k fu (by omega) (by omega), grw_same]
theorem walk24 (h : RA b0 σ A) {tx : Nat → Nat} (ht : TD b0 σ tx (A 35 51)) (hs : A 35 51 ≤ 2048) {rc} {x1 x2 x3 x4 : Int32} : ∀ m k f, k + m = A 35 51 → m < f → L_X12_walk_24 b0 fu rc f (b0 + 35) x1 x2 x3 x4 (nI k) σ = J_X12_walk_51 b0 fu rc (b0 + 35) x1 x2 x3 x4 (nI (sr (fun i => tx i == 47) k m)) σ := by
  have L := h.lay
  obtain ⟨t, u, t1, -, t3, t4⟩ := ht
  obtain ⟨k1, k2⟩ := ck65 L (t := t) (by rcases t3 with q | q <;> simp [q.1])
  intro m
  induction m with
  | zero =>
    intro k f hk hf
    obtain ⟨f, rfl⟩ : ∃ q, f = q + 1 := ⟨f - 1, by omega⟩
    unfold L_X12_walk_24
    rw [ltb_def, ckR_35 L, rf_51 h, if_l (by omega) (by omega), if_pos (by omega)]
    rfl
  | succ m ih =>
    intro k f hk hf
    obtain ⟨f, rfl⟩ : ∃ q, f = q + 1 := ⟨f - 1, by omega⟩
    obtain ⟨c1, c2⟩ := t4 k (by omega)
    unfold L_X12_walk_24
    rw [ltb_def, ckR_35 L, rf_51 h, if_l (by omega) (by omega), if_neg (by omega), osm_p t1, ckR_p k1 k2, ckI_n (by omega) (by omega), nI_cl (by omega), c1]
    show (if nI (tx k) = nI 47 then _ else _) = _
    rw [if_e (by omega) (by omega), ltb_def, ofi, ih (k + 1) f (by omega) (by omega)]
    by_cases e : tx k = 47
    · rw [if_pos e]; simp [sr, e]
    · rw [if_neg e]; simp [sr, e]
/-- a change of the two arrays of the walk, of their fields and of how much is left -/
theorem RM_walk {σ' : tM} {s s' : Nat} (h : RM b0 J σ (up2 A 35 51 s) N) (hs : s' < 2147483648) (hk : tk σ' = tk σ) (hn : tn σ' = tn σ) (hA : ∀ x y, ¬ (x = b0 + 35 ∧ (y = 49 ∨ y = 50)) → tA σ' x y = tA σ x y) (hI : ∀ x y, x ≠ b0 + 65 → x ≠ b0 + 66 → ¬ (x = b0 + 35 ∧ y = 51) → tI σ' x y = tI σ x y) (h5 : tI σ' (b0 + 35) 51 = nI s') (h4 : (tA σ' (b0 + 35) 49 = some (b0 + 65) ∧ tA σ' (b0 + 35) 50 = some (b0 + 66)) ∨ (tA σ' (b0 + 35) 49 = some (b0 + 66) ∧ tA σ' (b0 + 35) 50 = some (b0 + 65))) : RM b0 J σ' (up2 A 35 51 s') N := by
  obtain ⟨hr, hT, ad, ln, U, un, hd, hl, hb, hu, hm⟩ := h
  refine ⟨⟨?_, fun o j e => ?_, fun o j => ?_⟩, hT, ad, ln, U, un, ?_, hl, hb, hu, hm⟩
  · refine layR_of hr.1 (by omega) (fun a _ => by rw [hk]) ?_
    refine ⟨?_, ?_, ?_, ?_, ?_, ?_, ?_, ?_, ?_, ?_, ?_, ?_, ?_, ?_, ?_, ?_, ?_, ?_, ?_, ?_, ?_, ?_, ?_, ?_, ?_⟩ <;> exact hA _ _ (by omega)
  · by_cases q : o = 35 ∧ j = 51
    · obtain ⟨rfl, rfl⟩ := q
      rw [h5, up2_s]
      rfl
    · have e2 := hr.2.1 o j e
      rw [up2] at e2 ⊢
      have h65 : o ≠ 65 ∧ o ≠ 66 := by
        refine ⟨fun w => ?_, fun w => ?_⟩ <;> (subst w; cases e)
      rw [hI (b0 + o) j (by omega) (by omega) (by omega), e2]
      by_cases w : o = 35
      · rw [if_pos w, if_pos w, if_neg (fun z => q ⟨w, z⟩), if_neg (fun z => q ⟨w, z⟩)]
      · rw [if_neg w, if_neg w]
  · by_cases q : o = 35 ∧ j = 51
    · obtain ⟨rfl, rfl⟩ := q
      rw [up2_s]
      exact hs
    · have := hr.2.2 o j
      rw [up2] at this ⊢
      by_cases w : o = 35
      · rw [if_pos w, if_neg (fun z => q ⟨w, z⟩)] at this ⊢; exact this
      · rw [if_neg w] at this ⊢; exact this
  · obtain ⟨d1, d2, ⟨d3, d4, d5⟩, d6⟩ := id hd
    have w : ∀ f, isD f = true → f ≠ 49 ∧ f ≠ 50 := fun f hf => by have := isD_of hf; omega
    have ne : ∀ f, isD f = true → ad f ≠ b0 + 65 ∧ ad f ≠ b0 + 66 := fun f hf => by
      obtain ⟨-, -, -, a4, -⟩ := d1 f hf
      have : inD f < 61 := by unfold inD; have := isD_of hf; split <;> omega
      omega
    refine ⟨fun f hf => ?_, d2, ?_, h4⟩
    · obtain ⟨a1, a2, a3, a4, a5, a6, a7, a8⟩ := d1 f hf
      have n35 : ad f ≠ b0 + 35 := hd.ne hf (Or.inr rfl)
      exact ⟨by rw [hA _ _ (by have := w f hf; omega)]; exact a1, by rw [hk]; exact a2, by rw [hn]; exact a3, a4, a5, a6, a7, fun i hi => by rw [hI _ _ (ne f hf).1 (ne f hf).2 (by omega)]; exact a8 i hi⟩
    · rw [hI _ 4 (by omega) (by omega) (by omega), hI _ 36 (by omega) (by omega) (by omega), hI _ 45 (by omega) (by omega) (by omega)]
      exact ⟨d3, d4, d5⟩
/-- the frame of a change of the walk's own -/
theorem FR_walk {σ' : tM} (hk : tk σ' = tk σ) (hn : tn σ' = tn σ) (hu : tu σ' = tu σ) (hL : tL σ' = tL σ) (hA : ∀ x y, ¬ (x = b0 + 35 ∧ (y = 49 ∨ y = 50)) → tA σ' x y = tA σ x y) (hI : ∀ x y, x ≠ b0 + 65 → x ≠ b0 + 66 → ¬ (x = b0 + 35 ∧ y = 51) → tI σ' x y = tI σ x y) : FR b0 σ σ' := by
  have w : ∀ f, isD f = true → tA σ' (b0 + 35) f = tA σ (b0 + 35) f := fun f hf => hA _ _ (by have := isD_of hf; omega)
  have lw : ∀ f, isD f = true → lenD b0 σ' f = lenD b0 σ f := fun f hf => by unfold lenD; rw [w f hf, hk]
  refine ⟨by omega, by omega, by omega, ?_, fun a ha hr => ⟨by rw [hk], ?_, by rw [hL], ?_⟩, fun a hr => ?_⟩
  · unfold psi
    rw [lw 2 rfl, lw 3 rfl, lw 37 rfl, lw 38 rfl, lw 39 rfl, lw 40 rfl, lw 41 rfl, lw 42 rfl, lw 43 rfl, lw 44 rfl, hu]
  · funext y
    refine hI a y (fun e => hr ?_) (fun e => hr ?_) (fun e => hr ?_)
    · rw [e]; exact refO_f 65 (by omega) (by omega)
    · rw [e]; exact refO_f 66 (by omega) (by omega)
    · rw [e.1]; exact refO_f 35 (by omega) (by omega)
  · funext y
    exact hA a y (fun e => hr (by rw [e.1]; exact refO_f 35 (by omega) (by omega)))
  · rcases hr with q | ⟨f, hf, e⟩
    · exact Or.inl (Or.inl q)
    · exact Or.inl (refO_d f hf (by rw [← w f hf]; exact e))
end RW
