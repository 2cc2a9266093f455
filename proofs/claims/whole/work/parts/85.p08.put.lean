/-! ===== PURE: the reference's put, second half ===== -/
section RQ2
variable {b0 fu : Nat} {σ τ : tM} {A B : Nat → Nat → Nat} {ad ln c : Nat → Nat} {un nr nl ns N : Nat} {J : tJ}
theorem lenD_eq (hd : RD0 b0 σ ad ln B c un ns nl) {f : Nat} (hf : isD f = true) : lenD b0 σ f = ln f := by
  obtain ⟨a1, a2, -⟩ := hd.1 f hf
  unfold lenD
  rw [a1]
  show (match tk σ (ad f) with | .inr q => q.2 | .inl _ => 0) = _
  rw [a2]
theorem psi_eq (hd : RD0 b0 σ ad ln B c un ns nl) : psi b0 σ = 2 * (ln 2 + ln 3 + ln 37 + ln 38 + ln 39 + ln 40 + ln 41 + ln 42 + ln 43 + ln 44) := by
  unfold psi
  rw [lenD_eq hd (f := 2) rfl, lenD_eq hd (f := 3) rfl, lenD_eq hd (f := 37) rfl, lenD_eq hd (f := 38) rfl, lenD_eq hd (f := 39) rfl, lenD_eq hd (f := 40) rfl, lenD_eq hd (f := 41) rfl, lenD_eq hd (f := 42) rfl, lenD_eq hd (f := 43) rfl, lenD_eq hd (f := 44) rfl]
theorem isD_all {f : Nat} (h : isD f = true) : f = 2 ∨ f = 3 ∨ f = 37 ∨ f = 38 ∨ f = 39 ∨ f = 40 ∨ f = 41 ∨ f = 42 ∨ f = 43 ∨ f = 44 := by
  have := isD_of h; omega
theorem grown_fr (h : RA b0 σ A) (hd : RD0 b0 σ ad ln B c un ns nl) {f : Nat} (hf : isD f = true) (hl : 2 * ln f ≤ 524288) : FR b0 σ (grown b0 σ (ad f) f (ln f)) := by
  have h0 : 74 ≤ tn σ := h.1.1
  have e1 : tn (grown b0 σ (ad f) f (ln f)) = tn σ + 1 := rfl
  have e2 : tu (grown b0 σ (ad f) f (ln f)) = tu σ + 2 * ln f := rfl
  have hd2 := grown_rd h hd hf hl
  have l1 := (hd.1 f hf).2.2.2.2.2.2.1
  refine ⟨by omega, by omega, by omega, ?_, fun a ha hr => ?_, fun a hr => ?_⟩
  · rw [psi_eq hd, psi_eq hd2, e2]
    rcases isD_all hf with rfl | rfl | rfl | rfl | rfl | rfl | rfl | rfl | rfl | rfl <;> simp [upN] <;> omega
  · have n1 : a ≠ b0 + 35 := fun e => hr (e ▸ refO_f 35 (by omega) (by omega))
    have n2 : a ≠ b0 + tn σ := by omega
    exact same_t (same_sN n2) (same_t (same_sIr n2) (same_sA n1))
  · rcases hr with q | ⟨g, hg, e⟩
    · exact Or.inl (Or.inl q)
    · have := (hd2.1 g hg).1
      rw [e] at this
      by_cases eg : g = f
      · subst eg
        rw [upN_s] at this
        cases this
        exact Or.inr (Nat.le_refl _)
      · rw [upN_n eg] at this
        cases this
        exact Or.inl (refO_d g hg (hd.1 g hg).1)
theorem longer_eq (h : RA b0 σ A) {a n : Nat} (hk : tk σ a = .inr (0, n)) (hi : b0 ≤ a ∧ a < b0 + tn σ) (hn : 2 * n ≤ 1000000) : m_X12_longer b0 fu a (nI (2 * n)) σ = some (some (b0 + tn σ), sIr (sN σ (b0 + tn σ) (.inr (0, 2 * n)) (2 * n)) (b0 + tn σ) (va_cpy (tI σ a) (fun _ => 0) 0 0 n)) := by
  have c1 : (nI (2 * n)).toNatClampNeg = 2 * n := nI_cl (by omega)
  have c2 : (nI n).toNatClampNeg = n := nI_cl (by omega)
  have ne : a ≠ b0 + tn σ := by omega
  unfold m_X12_longer
  simp only [ckN, c1, ltb_def]
  rw [if_pos ⟨nI_pos (by omega), hn⟩, ckR_p (n := n) (by rw [rd_kN, if_neg ne]; exact hk) ⟨hi.1, by show a < b0 + (tn σ + 1); omega⟩]
  simp only [ckC, c2]
  rw [if_pos ⟨⟨by decide, by decide, nI_pos (by omega)⟩, by have : (0 : Int32).toNatClampNeg = 0 := rfl; omega, by have : (0 : Int32).toNatClampNeg = 0 := rfl; omega⟩]
  rw [rd_IN, rd_IN, if_neg ne, if_pos rfl]
  exact grw_p rfl (Nat.le_succ _) (by show tu σ ≤ tu σ + 2 * n; omega)
/-- the store at the end of the list of changes, and in the tree -/
theorem put57 (h : RA b0 σ A) (hd : RD0 b0 σ ad ln (mix B J.1) (cntD un J.2.1 J.2.2.1) un J.2.1 J.2.2.1) (hl : un < ln 2 ∧ un < ln 3) {at_ v : Nat} (ha : at_ < 554080) (hv : v < 2147483648) : wp (FR b0) σ (J_X12_put_57 b0 fu (b0 + 35) (nI at_) (nI v) σ) (fun _ τ => RA b0 τ (up2 A 36 at_ v) ∧ RD0 b0 τ ad ln (mix (up2 (up2 B 2 un at_) 3 un (A 36 at_)) J.1) (cntD (un + 1) J.2.1 J.2.2.1) (un + 1) J.2.1 J.2.2.1) := by
  have L := h.lay
  obtain ⟨h1, h2, ⟨s4, s36, s45⟩, h4⟩ := id hd
  obtain ⟨a1, a2, a3, a4, a5, a6, a7, a8⟩ := h1 2 rfl
  obtain ⟨b1, b2, b3, b4, b5, b6, b7, b8⟩ := h1 3 rfl
  have n23 : ad 2 ≠ ad 3 := fun e => absurd (h2 2 3 rfl rfl e) (by decide)
  have m2 : ad 2 ≠ b0 + 35 := hd.ne rfl (Or.inr rfl)
  have m3 : ad 3 ≠ b0 + 35 := hd.ne rfl (Or.inr rfl)
  have k2 : ad 2 ≠ b0 + 36 := hd.ne rfl (Or.inl rfl)
  have k3 : ad 3 ≠ b0 + 36 := hd.ne rfl (Or.inl rfl)
  have cu : (nI un).toNatClampNeg = un := nI_cl (by omega)
  have ca : (nI at_).toNatClampNeg = at_ := nI_cl (by omega)
  have ge2 : b0 ≤ ad 2 := by rcases a4 with q | q <;> omega
  have ge3 : b0 ≤ ad 3 := by rcases b4 with q | q <;> omega
  unfold J_X12_put_57
  simp only [rd_AI, rd_AL, rd_AIr, rd_ALr, rd_IL, rd_LI, rd_IA, rd_LA, rd_LIr, rd_ILr, ckR_sI, ckO_sI, ckR_sL, ckO_sL, ckR_sA, ckO_sA, ckR_sIr, ckO_sIr, ckR_sLr, ckO_sLr, ltb_def]
  rw [ckR_35 L, osm_p a1, ckR_p a2 ⟨ge2, a3⟩, s4, cu, ckI_n hl.1 (by omega), osm_p b1, osm_p (rfR_35_1 L), ckR_36 L, ca, ckI_n ha (by omega), ckR_p b2 ⟨ge3, b3⟩, rd_IIa m2.symm, s4, ckI_n hl.2 (by omega), cu, osm_p (rfR_35_1 L), ckR_36 L, ckI_n ha (by omega)]
  rw [rd_IIa m3.symm, rd_IIa m2.symm, s4, rd_IIa k2.symm, rd_36 h, nI_1]
  refine wp_ret ?_ ⟨?_, ?_⟩
  · refine (FR_good b0).2.1 _ _ _ (FR_sI (refO_d 2 rfl a1)) ((FR_good b0).2.1 _ _ _ (FR_sI (refO_d 3 rfl b1)) ((FR_good b0).2.1 _ _ _ (FR_sI (refO_f 35 (by omega) (by omega))) (FR_sI (refO_f 36 (by omega) (by omega)))))
  · exact RA_up (RA_oth (RA_same h h.1 fun o j e => by rw [rd_IIa fun q => hd.ne rfl (isA_o e) q.symm, rd_IIa fun q => hd.ne rfl (isA_o e) q.symm]) rfl) rfl (by show v < 2147483648; exact hv)
  · refine ⟨fun f hf => ?_, h2, ⟨?_, ?_, ?_⟩, h4⟩
    · obtain ⟨c1, c2, c3, c4, c5, c6, c7, c8⟩ := h1 f hf
      have w1 : ad f ≠ b0 + 35 := hd.ne hf (Or.inr rfl)
      have w2 : ad f ≠ b0 + 36 := hd.ne hf (Or.inl rfl)
      refine ⟨c1, c2, c3, c4, ?_, c6, c7, fun i hi => ?_⟩
      · rcases isD_all hf with rfl | rfl | rfl | rfl | rfl | rfl | rfl | rfl | rfl | rfl <;> simp [cntD] at c5 ⊢ <;> omega
      · rw [rd_IIa w2, rd_IIa w1]
        by_cases f3 : f = 3
        · subst f3
          have e : mix (up2 (up2 B 2 un at_) 3 un (A 36 at_)) J.1 3 i = if i = un then A 36 at_ else B 3 i := by simp [mix, up2]
          rw [e, rd_II, if_pos rfl]
          by_cases ei : i = un
          · rw [if_pos ei, if_pos ei]
            exact ⟨rfl, bd_36 h at_⟩
          · rw [if_neg ei, if_neg ei, rd_IIa (fun q => n23 q.symm)]
            have := c8 i (by simp [cntD] at hi ⊢; omega)
            exact this
        · rw [rd_IIa (fun q => f3 (h2 f 3 hf rfl q))]
          by_cases f2 : f = 2
          · subst f2
            have e : mix (up2 (up2 B 2 un at_) 3 un (A 36 at_)) J.1 2 i = if i = un then at_ else B 2 i := by simp [mix, up2]
            rw [e, rd_II, if_pos rfl]
            by_cases ei : i = un
            · rw [if_pos ei, if_pos ei]
              exact ⟨rfl, by omega⟩
            · rw [if_neg ei, if_neg ei]
              exact c8 i (by simp [cntD] at hi ⊢; omega)
          · rw [rd_IIa (fun q => f2 (h2 f 2 hf rfl q))]
            have f4 : ¬ f < 4 := by have := isD_of hf; omega
            have e : mix (up2 (up2 B 2 un at_) 3 un (A 36 at_)) J.1 f i = mix B J.1 f i := by simp [mix, f4]
            rw [e]
            exact c8 i (by simp [cntD, f4] at hi ⊢; exact hi)
    · rw [rd_IIa (by omega), rd_IIs]
    · rw [rd_IIa (by omega), rd_IIj (by omega), rd_IIa m3.symm, rd_IIa m2.symm]
      exact s36
    · rw [rd_IIa (by omega), rd_IIj (by omega), rd_IIa m3.symm, rd_IIa m2.symm]
      exact s45
end RQ2
