/-! ===== PURE: the class's Space: freeRetired, obtain, release ===== -/
section SU
variable {b0 fu : Nat} {σ τ : tM} {C : tS} {D : tD}
theorem ci_cong {X : tS} (h : ci C) (h10 : ∀ q, q = 7 ∨ q = 8 ∨ q = 11 ∨ q = 12 ∨ q = 13 → X 10 q = C 10 q) (h15 : X 15 = C 15) (h16 : X 16 = C 16) (h17 : X 17 = C 17) : ci X := by
  unfold ci
  rw [h10 7 (by omega), h10 8 (by omega), h10 11 (by omega), h10 12 (by omega), h10 13 (by omega), h15, h16, h17]
  exact h
theorem m1_0 {x : Nat} (h : x < 2147483648) : (nI x - 1 = 0 ↔ x = 1) ∧ (nI x - 1 ≤ 0 ↔ x ≤ 1) := cut_c (by omega)
theorem m1_n1 {x : Nat} (h : x < 2147483648) : nI x - 1 = -1 ↔ x = 0 := by
  constructor
  · intro e
    refine Classical.byContradiction (fun q => ?_)
    rw [show nI x - 1 = nI (x - 1) from nI_sb (b := 1) (by omega)] at e
    have : ¬ nI (x - 1) < 0 := nI_pos (by omega)
    rw [e] at this
    exact this (by decide)
  · rintro rfl
    decide
theorem fr3 {d : Nat} (hd : d < 2147483648) : ∀ m c f σ C, CM b0 σ C D → (34 ≤ C 10 7 ∧ C 10 7 ≤ 2034) → sk C → 34 ≤ c → c + m = C 10 7 → m < f → wp (FC b0) σ (L_X5_freeRetired_3 b0 fu f (b0 + 10) (nI d) (nI c) σ) (fun _ τ => ∃ C', CM b0 τ C' D ∧ sk C' ∧ (∀ k, C' 12 k = if c ≤ k ∧ k < C 10 7 ∧ 1 < C 12 k ∧ C 12 k - 1 ≤ d then 1 else C 12 k) ∧ ∀ p q, p ≠ 12 → ¬ (p = 10 ∧ (q = 9 ∨ q = 10 ∨ q = 14)) → C' p q = C p q) := by
  intro m
  induction m with
  | zero =>
    intro c f σ C h h7 hs hc hm hf
    obtain ⟨f, rfl⟩ : ∃ q, f = q + 1 := ⟨f - 1, by omega⟩
    unfold L_X5_freeRetired_3 J_X5_freeRetired_82
    rw [ltb_def, ckC_10 h.lay, cf_10_7 h.ca, if_l (by omega) (by omega), if_pos (by omega)]
    exact wp_ret ((FC_good b0).1 _) ⟨C, h, hs, fun k => by rw [if_neg (by omega)], fun _ _ _ _ => rfl⟩
  | succ m ih =>
    intro c f σ C h h7 hs hc hm hf
    obtain ⟨f, rfl⟩ : ∃ q, f = q + 1 := ⟨f - 1, by omega⟩
    have L := h.lay
    have b12 := cb_12 h.ca c
    obtain ⟨s1, s2, s3, s4⟩ := hs
    have l10 : C 10 10 ≤ 2000 := by rw [s2]; exact Nat.le_trans (cn_le _ _ _) (by omega)
    have l9 : C 10 9 ≤ 2000 := by rw [s1]; exact Nat.le_trans (cn_le _ _ _) (by omega)
    unfold L_X5_freeRetired_3 J_X5_freeRetired_82 J_X5_freeRetired_76
    rw [ltb_def, ckC_10 L, cf_10_7 h.ca, if_l (by omega) (by omega), if_neg (by omega), cf_10_10 h.ca]
    show wp (FC b0) σ (if nI (C 10 10) ≤ nI 0 then _ else _) _
    rw [if_l (by omega) (by omega)]
    by_cases z : C 10 10 ≤ 0
    · rw [if_pos z]
      have zz := cn_0 _ _ (s2.symm.trans (show C 10 10 = 0 by omega))
      refine wp_ret ((FC_good b0).1 _) ⟨C, h, ⟨s1, s2, s3, s4⟩, fun k => ?_, fun _ _ _ _ => rfl⟩
      rw [if_neg]
      intro q
      have := zz k (by omega) (by omega)
      simp at this
      omega
    rw [if_neg z, osm_p (rfC_10_1 L), ckC_12 L, ckI_n (by omega) (by omega), nI_cl (by omega), cd_12 h.ca, osm_p (rfC_10_1 L), ckC_12 L, ckI_n (by omega) (by omega), osm_p (rfC_10_1 L), ckC_12 L, ckI_n (by omega) (by omega), ltb_def, ofi]
    have rest : (¬ (1 < C 12 c ∧ C 12 c - 1 ≤ d)) → wp (FC b0) σ (L_X5_freeRetired_3 b0 fu f (b0 + 10) (nI d) (nI (c + 1)) σ) (fun _ τ => ∃ C', CM b0 τ C' D ∧ sk C' ∧ (∀ k, C' 12 k = if c ≤ k ∧ k < C 10 7 ∧ 1 < C 12 k ∧ C 12 k - 1 ≤ d then 1 else C 12 k) ∧ ∀ p q, p ≠ 12 → ¬ (p = 10 ∧ (q = 9 ∨ q = 10 ∨ q = 14)) → C' p q = C p q) := by
      intro hn
      refine wp_mono (ih (c + 1) f σ C h h7 ⟨s1, s2, s3, s4⟩ (by omega) (by omega) (by omega)) ?_
      rintro _ ρ _ ⟨C', q1, q2, q3, q4⟩
      refine ⟨C', q1, q2, fun k => ?_, q4⟩
      rw [q3]
      by_cases e : k = c
      · subst e
        rw [if_neg (by omega), if_neg (by omega)]
      · by_cases e2 : c + 1 ≤ k ∧ k < C 10 7 ∧ 1 < C 12 k ∧ C 12 k - 1 ≤ d
        · rw [if_pos e2, if_pos (by omega)]
        · rw [if_neg e2, if_neg (by omega)]
    by_cases c1 : C 12 c ≤ 1
    · rw [if_pos ((m1_0 b12).2.mpr c1)]
      exact rest (by omega)
    · rw [if_neg (fun r => c1 ((m1_0 b12).2.mp r)), cd_12 h.ca, show nI (C 12 c) - 1 = nI (C 12 c - 1) from nI_sb (b := 1) (by omega), if_t hd (by omega)]
      by_cases c2 : d < C 12 c - 1
      · rw [if_pos c2]
        exact rest (by omega)
      · rw [if_neg c2, ltb_def]
        have h1 : CM b0 (sI σ (b0 + 12) c 0) (up2 C 12 c 1) D := CM_fix (o := 12) h rfl (show (0 : Int32) = nI 1 - 1 by decide) (by decide)
        have p10 : 0 < C 10 10 := by omega
        rw [cf_10_10 h1.ca, up2_o (by decide), show nI (C 10 10) - (1 : Int32) = nI (C 10 10 - 1) from nI_sb (b := 1) (by omega)]
        have h2 : CM b0 (sI (sI σ (b0 + 12) c 0) (b0 + 10) 10 (nI (C 10 10 - 1))) (up2 (up2 C 12 c 1) 10 10 (C 10 10 - 1)) D := CM_fix (o := 10) (j := 10) h1 rfl rfl (by show _ < 2147483648; omega)
        rw [cf_10_9 h2.ca, up2_j (by decide), up2_o (by decide), show nI (C 10 9) + (1 : Int32) = nI (C 10 9 + 1) from nI_add _ 1]
        have h3 : CM b0 (sI (sI (sI σ (b0 + 12) c 0) (b0 + 10) 10 (nI (C 10 10 - 1))) (b0 + 10) 9 (nI (C 10 9 + 1))) (up2 (up2 (up2 C 12 c 1) 10 10 (C 10 10 - 1)) 10 9 (C 10 9 + 1)) D := CM_fix (o := 10) (j := 9) h2 rfl rfl (by show _ < 2147483648; omega)
        rw [cf_10_14 h3.ca, up2_j (by decide), up2_j (by decide), up2_o (by decide), if_t (by omega) (by omega)]
        have ev : (if c < C 10 14 then nI c else nI (C 10 14)) = nI (if c < C 10 14 then c else C 10 14) := by split <;> rfl
        rw [ev]
        have h4 := CM_fix (o := 10) (j := 14) (x := if c < C 10 14 then c else C 10 14) (v := nI (if c < C 10 14 then c else C 10 14)) h3 rfl rfl (by show _ < 2147483648; split <;> omega)
        refine wp_from (FC_good b0) (FC_2 (FC_sI h.rf (by omega)) (FC_2 (FC_sI h1.rf (by omega)) (FC_2 (FC_sI h2.rf (by omega)) (FC_sI (o := 10) (j := 14) (v := nI (if c < C 10 14 then c else C 10 14)) h3.rf (by omega))))) ?_
        generalize hX : up2 (up2 (up2 (up2 C 12 c 1) 10 10 (C 10 10 - 1)) 10 9 (C 10 9 + 1)) 10 14 (if c < C 10 14 then c else C 10 14) = X at h4
        have x12 : ∀ k, X 12 k = if k = c then 1 else C 12 k := by
          intro k
          rw [← hX, up2_o (by decide), up2_o (by decide), up2_o (by decide)]
          by_cases q : k = c
          · rw [if_pos q, q, up2_s]
          · rw [if_neg q, up2_j q]
        have xo : ∀ p q, p ≠ 12 → ¬ (p = 10 ∧ (q = 9 ∨ q = 10 ∨ q = 14)) → X p q = C p q := by
          intro p q hp hq
          rw [← hX]
          by_cases e : p = 10
          · subst e
            rw [up2_j (by omega), up2_j (by omega), up2_j (by omega), up2_o (by decide)]
          · rw [up2_o e, up2_o e, up2_o e, up2_o hp]
        have x7 : X 10 7 = C 10 7 := xo 10 7 (by decide) (by omega)
        have x9 : X 10 9 = C 10 9 + 1 := by rw [← hX, up2_j (by decide), up2_s]
        have x10 : X 10 10 = C 10 10 - 1 := by rw [← hX, up2_j (by decide), up2_j (by decide), up2_s]
        have x14 : X 10 14 = if c < C 10 14 then c else C 10 14 := by rw [← hX, up2_s]
        have skX : sk X := by
          refine ⟨?_, ?_, ?_, fun k k1 k2 => ?_⟩
          · rw [x9, x7, s1]
            exact (cn_on (p := fun k => C 12 k == 1) (q := fun k => X 12 k == 1) (x := c) (by show (C 12 c == 1) = false; simp; omega) (by show (X 12 c == 1) = true; rw [x12, if_pos rfl]; rfl) _ _ hc (by omega) (fun i _ _ hi => by rw [x12, if_neg hi])).symm
          · rw [x10, x7, s2]
            exact (cn_off (p := fun k => decide (1 < C 12 k)) (q := fun k => decide (1 < X 12 k)) (x := c) (by simp; omega) (by rw [x12, if_pos rfl]; rfl) _ _ hc (by omega) (fun i _ _ hi => by rw [x12, if_neg hi])).symm
          · rw [x14, x7]
            split <;> omega
          · rw [x14] at k2
            rw [x12]
            by_cases e : k = c
            · subst e
              split at k2 <;> omega
            · rw [if_neg e]
              exact s4 k k1 (by split at k2 <;> omega)
        refine wp_mono (ih (c + 1) f _ X h4 (by rw [x7]; exact h7) skX (by omega) (by rw [x7]; omega) (by omega)) ?_
        rintro _ ρ _ ⟨C', q1, q2, q3, q4⟩
        refine ⟨C', q1, q2, fun k => ?_, fun p q hp hq => (q4 p q hp hq).trans (xo p q hp hq)⟩
        rw [q3, x7, x12]
        by_cases e : k = c
        · subst e
          rw [if_neg (by omega), if_pos rfl, if_pos (by omega)]
        · rw [if_neg e]
          by_cases e2 : c + 1 ≤ k ∧ k < C 10 7 ∧ 1 < C 12 k ∧ C 12 k - 1 ≤ d
          · rw [if_pos e2, if_pos (by omega)]
          · rw [if_neg e2, if_neg (by omega)]
theorem freeRetired_c (h : CM b0 σ C D) (h7 : 34 ≤ C 10 7 ∧ C 10 7 ≤ 2034) (hs : sk C) {d : Nat} (hd : d < 2147483648) (hu : 3000 ≤ fu) : wp (FC b0) σ (m_X5_freeRetired b0 fu (b0 + 10) (nI d) σ) (fun _ τ => ∃ C', CM b0 τ C' D ∧ frP d C C') := by
  refine wp_grw (FC_good b0) (wp_mono (fr3 hd (C 10 7 - 34) 34 fu σ C h h7 hs (by omega) (by omega) (by omega)) ?_)
  rintro _ ρ _ ⟨C', q1, q2, q3, q4⟩
  exact ⟨C', q1, q2, q3, q4⟩
end SU
