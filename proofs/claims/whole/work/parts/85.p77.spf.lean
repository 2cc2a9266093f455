/-! ===== PURE: the class's Space: forgetMarks, freeRetired ===== -/
section ST
variable {b0 fu : Nat} {σ τ : tM} {C : tS} {D : tD}
theorem clF_id (h17 : ∀ k, C 17 k = 0) (h13 : C 10 13 = 0) : clF C = C := by
  funext p q
  unfold clF
  by_cases p1 : p = 17
  · subst p1
    rw [if_pos rfl]
    exact (h17 q).symm
  · rw [if_neg p1]
    by_cases p2 : p = 10 ∧ q = 13
    · obtain ⟨rfl, rfl⟩ := p2
      rw [if_pos ⟨rfl, rfl⟩]
      exact h13.symm
    · rw [if_neg p2]
theorem cn_off {p q : Nat → Bool} {x : Nat} (hp : p x = true) (hq : q x = false) (m k : Nat) (h1 : k ≤ x) (h2 : x < k + m) (h : ∀ i, k ≤ i → i < k + m → i ≠ x → p i = q i) : cn q k m = cn p k m - 1 := by
  have := cn_on (p := q) (q := p) (x := x) hq hp m k h1 h2 (fun i a b c => (h i a b c).symm)
  omega
theorem ci_cle {c : Nat} (hc : ci C) : ci (cleC C c) := by
  unfold cleC
  split
  · rename_i e
    obtain ⟨e1, e2, e3⟩ := e
    obtain ⟨⟨c1, c2, c3⟩, ⟨c4, c5, c6⟩, c7⟩ := hc
    have g : ∀ q, q ≠ 13 → up2 (up2 C 17 c 0) 10 13 (C 10 13 - 1) 10 q = C 10 q := fun q hq => by rw [up2_j hq, up2_o (by decide)]
    have g17 : ∀ k, up2 (up2 C 17 c 0) 10 13 (C 10 13 - 1) 17 k = if k = c then 0 else C 17 k := fun k => by
      rw [up2_o (by decide)]
      by_cases q : k = c
      · rw [if_pos q, q, up2_s]
      · rw [if_neg q, up2_j q]
    have go : ∀ p, p ≠ 10 → p ≠ 17 → up2 (up2 C 17 c 0) 10 13 (C 10 13 - 1) p = C p := fun p h1 h2 => by rw [up2_rown h1, up2_rown h2]
    refine ⟨⟨by rw [g 7 (by decide)]; exact c1, by rw [g 7 (by decide)]; exact c2, by rw [g 8 (by decide)]; exact c3⟩, ⟨?_, ?_, ?_⟩, fun k hk => ?_⟩
    · rw [g 11 (by decide), go 15 (by decide) (by decide)]
      exact c4
    · rw [g 12 (by decide), go 16 (by decide) (by decide)]
      exact c5
    · rw [up2_s, cn_off (p := fun k => C 17 k != 0) (x := c) (by simp [e3]) (by rw [g17, if_pos rfl]; rfl) 2034 0 (by omega) (by omega) (fun i _ _ hi => by rw [g17, if_neg hi]), c6]
    · rw [g 7 (by decide)] at hk
      rw [go 15 (by decide) (by decide), go 16 (by decide) (by decide), g17]
      refine ⟨(c7 k hk).1, (c7 k hk).2.1, ?_⟩
      split
      · rfl
      · exact (c7 k hk).2.2
  · exact hc
theorem ci_cl (hc : ci C) : ci (clF C) := by
  obtain ⟨⟨c1, c2, c3⟩, ⟨c4, c5, c6⟩, c7⟩ := hc
  exact ⟨⟨c1, c2, c3⟩, ⟨c4, c5, (cn_all0 _ _ (fun x _ _ => rfl)).symm⟩, fun k hk => ⟨(c7 k hk).1, (c7 k hk).2.1, rfl⟩⟩
theorem fgm2 {P : Unit → tM → Prop} : ∀ m c f σ C, CM b0 σ C D → ci C → c + m = C 10 7 → (∀ k, k < c → C 17 k = 0) → m < f → (∀ τ, FC b0 σ τ → CM b0 τ (clF C) D → wp (FC b0) τ (J_X5_forgetMarks_28 b0 fu (b0 + 10) τ) P) → wp (FC b0) σ (L_X5_forgetMarks_2 b0 fu f (b0 + 10) (nI c) σ) P := by
  intro m
  induction m with
  | zero =>
    intro c f σ C h hc hm hz hf hq
    obtain ⟨f, rfl⟩ : ∃ q, f = q + 1 := ⟨f - 1, by omega⟩
    have c2 := hc.1.2.1
    have z17 : ∀ k, C 17 k = 0 := fun k => by
      by_cases q : k < c
      · exact hz k q
      · exact (hc.2.2 k (Or.inr (by omega))).2.2
    have e13 : C 10 13 = 0 := by rw [hc.2.1.2.2]; exact cn_all0 _ _ (fun x _ _ => by simp [z17 x])
    unfold L_X5_forgetMarks_2
    rw [ltb_def, ckC_10 h.lay, cf_10_7 h.ca, if_l (by omega) (by omega), if_pos (by omega)]
    exact hq σ ((FC_good b0).1 _) (by rw [clF_id z17 e13]; exact h)
  | succ m ih =>
    intro c f σ C h hc hm hz hf hq
    obtain ⟨f, rfl⟩ : ∃ q, f = q + 1 := ⟨f - 1, by omega⟩
    have c2 := hc.1.2.1
    have bb := ci_b hc
    have b17 := cb_17 h.ca c
    unfold L_X5_forgetMarks_2
    rw [ltb_def, ckC_10 h.lay, cf_10_7 h.ca, if_l (by omega) (by omega), if_neg (by omega), cf_10_13 h.ca]
    show wp (FC b0) σ (if nI (C 10 13) ≤ nI 0 then _ else _) _
    rw [if_l (by omega) (by omega)]
    by_cases z : C 10 13 ≤ 0
    · have z17 : ∀ k, C 17 k = 0 := fun k => by
        by_cases q : k < 2034
        · have := cn_0 _ _ (hc.2.1.2.2.symm.trans (show C 10 13 = 0 by omega)) k (by omega) (by omega)
          simp at this
          exact this
        · exact (hc.2.2 k (Or.inr (by omega))).2.2
      rw [if_pos z]
      exact hq σ ((FC_good b0).1 _) (by rw [clF_id z17 (by omega)]; exact h)
    · rw [if_neg z]
      obtain ⟨u, τ, x1, x2, x3⟩ := clean_c (fu := fu) h hc (c := c) (by omega)
      rw [x1, cll_some, ltb_def, ofi]
      refine wp_from (FC_good b0) x2 ?_
      have k7 : cleC C c 10 7 = C 10 7 := by
        unfold cleC
        split
        · rw [up2_j (by decide), up2_o (by decide)]
        · rfl
      have k17 : ∀ k, cleC C c 17 k = if k = c then 0 else C 17 k := by
        intro k
        unfold cleC
        by_cases q : 0 < c ∧ c < C 10 7 ∧ C 17 c ≠ 0
        · rw [if_pos q, up2_o (by decide)]
          by_cases e : k = c
          · rw [if_pos e, e, up2_s]
          · rw [if_neg e, up2_j e]
        · rw [if_neg q]
          by_cases e : k = c
          · rw [if_pos e, e]
            by_cases e0 : c = 0
            · exact (hc.2.2 c (Or.inl e0)).2.2
            · exact Classical.byContradiction (fun r => q ⟨by omega, by omega, r⟩)
          · rw [if_neg e]
      have kci : ci (cleC C c) := ci_cle hc
      have kclf : clF (cleC C c) = clF C := by
        funext p q
        unfold clF
        by_cases p1 : p = 17
        · rw [if_pos p1, if_pos p1]
        · rw [if_neg p1, if_neg p1]
          by_cases p2 : p = 10 ∧ q = 13
          · rw [if_pos p2, if_pos p2]
          · rw [if_neg p2, if_neg p2]
            unfold cleC
            split
            · by_cases p3 : p = 10
              · subst p3
                rw [up2_j (fun e => p2 ⟨rfl, e⟩), up2_o (by decide)]
              · rw [up2_o p3, up2_o p1]
            · rfl
      refine ih (c + 1) f τ _ x3 kci (by rw [k7]; omega) (fun k hk => ?_) (by omega) (fun τ2 f2 q2 => ?_)
      · rw [k17]
        by_cases e : k = c
        · rw [if_pos e]
        · rw [if_neg e]
          exact hz k (by omega)
      · rw [kclf] at q2
        exact hq τ2 (FC_2 x2 f2) q2
theorem forgetMarks_c (h : CM b0 σ C D) (hc : ci C) (hu : 3000 ≤ fu) : wp (FC b0) σ (m_X5_forgetMarks b0 fu (b0 + 10) σ) (fun _ τ => CM b0 τ (emF (clF C) (C 10 16)) D) := by
  have c2 := hc.1.2.1
  refine wp_grw (FC_good b0) (fgm2 (C 10 7) 0 fu σ C h hc (by omega) (fun k hk => by omega) (by omega) (fun τ _ q => ?_))
  have e16 : clF C 10 16 = C 10 16 := rfl
  unfold J_X5_forgetMarks_28
  rw [ckC_10 q.lay, cf_10_16 q.ca, e16]
  refine wp_bind (FC_good b0) (emptyGroup_c (fu := fu) q (ci_cl hc) (cb_10 h.ca 16) hu) ?_
  intro _ ρ r
  exact wp_ret ((FC_good b0).1 _) r
end ST
