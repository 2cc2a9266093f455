/-! ===== PURE: an entry removed, in both ===== -/
section SRU
variable {bi : Nat → Nat} {w : Nat → Nat × Nat} {C A B X : tS}
theorem SR_rem {d k : Nat} (h : SR bi w C A) (hD : DI w A) (hd : d < 64) (h2 : nd A d 0 = 2) (hk : k < eAll A d) : SR bi w (rmEn C d k) (remA A d k) ∧ (TF A → TF (remA A d k)) ∧ (∀ q, remA A d k 35 q = A 35 q) ∧ fre (remA A d k) = fre A ∧ rmEn C d k 10 15 = C 10 15 ∧ (∀ n' j, n' < 64 → j < 85 → ¬ (n' = d ∧ j = 1) → nd (remA A d k) n' j = nd A n' j) ∧ (∀ r k' i, r < 2000 → k' < 8 → i < 30 → eZ (remA A d k) r k' i = if r + 1 = hasA A d (k / 8) ∧ k' = k % 8 ∧ i = 0 then 64 else eZ A r k' i) := by
  obtain ⟨z1, z2, z3⟩ := hD.1 d hd h2
  have b1 := (nd_k h.ok hd).2.1
  have k8 : k / 8 < nd A d 1 / 256 := by unfold eAll at hk; omega
  obtain ⟨r, hr⟩ : ∃ r, hasA A d (k / 8) = r + 1 := by
    have := z3 (k / 8) k8
    exact ⟨hasA A d (k / 8) - 1, by omega⟩
  obtain ⟨g1, g2, g3, g4, g5⟩ := SR_clr h hd h2 (by omega) hr
  have hs : ∀ i, i < 1064 → hasA (putE A d k 64) d i = hasA A d i := fun i hi => by rw [← hs_slo hi, g4 d i hd (Or.inl hi), hs_slo hi]
  obtain ⟨a0, a1⟩ := hd_c g1.ok g1.mr hd
  have k0 : nd (putE A d k 64) d 0 = 2 := by rw [g3 d 0 hd (by omega)]; exact h2
  obtain ⟨-, -, a3⟩ := a1 (by omega)
  rw [if_neg (by omega)] at a3
  have c15 : rm4 (clE C d k) k 0 4 C 10 15 = C 10 15 := by
    obtain ⟨r', -, -, -, -, hcl, h7⟩ := cell_c h hd (by omega) (show k / 8 < 1064 by omega) (by rw [hr]; omega)
    have ec : clE C d k = 34 + r' := hcl
    rw [ec]
    exact (rm4_r (c := 34 + r') (k := k) (by omega) 4 0 C h.rk.1 h7).2.2.2.1 15 (by decide)
  have f1 : fre (putE A d k 64) = fre A := by
    unfold fre frA
    rw [g5 35 (by decide) (by decide), g5 49 (by decide) (by decide)]
    refine cn_congr _ _ (fun q _ _ => ?_)
    have : putE A d k 64 36 (6080 + q * 274) = A 36 (6080 + q * 274) := by
      unfold putE ex
      rw [hr, show r + 1 - 1 = r by omega, up2_o (by decide), up2_j]
      obtain ⟨o', ho', o1', o2'⟩ : ∃ o, 34 + k % 8 * 30 + 0 = o ∧ 34 ≤ o ∧ o < 274 := ⟨_, rfl, by omega, by omega⟩
      rw [ho']
      omega
    rw [this]
  unfold rmEn remA
  rw [a3]
  have hm : nd (putE A d k 64) d 1 / 256 ≤ 1064 := by rw [g3 d 1 hd (by omega)]; omega
  have e1 : nd (putE A d k 64) d 1 = nd A d 1 := g3 d 1 hd (by omega)
  have r2000 : ∀ i q, i < 1064 → hasA A d i = q + 1 → q < 2000 := fun i q hi e => (h.ti.2.1 d i q hd (Or.inl hi) (by rw [hs_slo hi]; exact e)).1
  obtain ⟨x1, x2, x3, x4, x5, x6, x7⟩ := SR_rml (bi := bi) (w := w) hd (nd (putE A d k 64) d 1 / 256) _ _ g1 k0 hm (fun i hi => by rw [hs i (by omega)]; rw [e1] at hi; exact z3 i hi) (fun i q hi e k' hk' => by
    rw [e1] at hi
    rw [hs i (by omega)] at e
    have q2 := r2000 i q (by omega) e
    rw [g2 q k' 0 q2 hk' (by omega), g2 q k' 1 q2 hk' (by omega), if_neg (show ¬ (q = r ∧ k' = k % 8 ∧ (1 : Nat) = 0) from fun y => by omega)]
    by_cases c : q = r ∧ k' = k % 8 ∧ (0 : Nat) = 0
    · rw [if_pos c]
      intro y
      exact absurd rfl y
    · rw [if_neg c]
      intro y
      have := (hD.2.1 d (8 * i + k') hd h2 (by unfold eAll; omega))
      have en : ∀ v, A 36 (ex A d (8 * i + k') v) = eZ A q k' v := fun v => by
        rw [e_eZ (A := A) (d := d) (k := 8 * i + k') (v := v), show (8 * i + k') / 8 = i by omega, e, show (8 * i + k') % 8 = k' by omega]
        rfl
      unfold eN eL at this
      rw [en 0, en 1] at this
      exact (this y).2)
  refine ⟨x1, fun t => x2 ?_, fun q => by rw [x3, g5 35 (by decide) (by decide)], by rw [x4, f1], by rw [x5, c15], fun n' j a b e => by rw [x6 n' j a b e, g3 n' j a (by omega)], fun q k' i a b c => ?_⟩
  · intro n' s' a b e q
    rw [g4 n' s' a b] at q
    obtain ⟨k, y1, y2⟩ := t n' s' a b e q
    exact ⟨k, y1, by rw [g4 n' _ a (chS_ok b e y1).1]; exact y2⟩
  · rw [x7 q k' i b c, g2 q k' i a b c]
    by_cases y : q = r ∧ k' = k % 8 ∧ i = 0
    · rw [if_pos y, if_pos ⟨by omega, y.2⟩]
    · rw [if_neg y, if_neg (fun t => y ⟨by omega, t.2⟩)]
end SRU
