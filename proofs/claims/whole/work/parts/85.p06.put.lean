/-! ===== PURE: the reference's put ===== -/
section RP
variable {b0 fu : Nat} {σ τ : tM} {A B : Nat → Nat → Nat} {ad ln c : Nat → Nat} {un nr nl ns : Nat}
theorem isA_o {o j : Nat} (h : isA o j = true) : isA o 0 = true ∨ o = 35 := by
  unfold isA at h ⊢
  split at h
  · exact Or.inr rfl
  all_goals first | exact Or.inl rfl | cases h
theorem RA_dyn (h : RA b0 σ A) (hd : RD0 b0 σ ad ln B c un ns nl) {f j : Nat} {v : Int32} (hf : isD f = true) : RA b0 (sI σ (ad f) j v) A :=
  RA_same h h.1 fun _ _ e => rd_IIa fun q => hd.ne hf (isA_o e) q.symm
/-- a store into a fixed cell leaves the growing arrays -/
theorem RD0_fix (hd : RD0 b0 σ ad ln B c un ns nl) {o j : Nat} {v : Int32} (ho : isA o 0 = true ∨ o = 35) (h4 : o = 35 → j ≠ 4 ∧ j ≠ 36 ∧ j ≠ 45) : RD0 b0 (sI σ (b0 + o) j v) ad ln B c un ns nl := by
  obtain ⟨h1, h2, ⟨h3, h5, h6⟩, h7⟩ := id hd
  refine ⟨fun f hf => ?_, h2, ?_, h7⟩
  · obtain ⟨a1, a2, a3, a4, a5, a6, a7, a8⟩ := h1 f hf
    exact ⟨a1, a2, a3, a4, a5, a6, a7, fun i hi => by rw [rd_IIa (hd.ne hf ho)]; exact a8 i hi⟩
  · have g : ∀ y, (o = 35 → j ≠ y) → tI (sI σ (b0 + o) j v) (b0 + 35) y = tI σ (b0 + 35) y := fun y hy => by
      by_cases e : o = 35
      · exact rd_IIj (fun q => hy e q.symm)
      · exact rd_IIa (by omega)
    rw [g 4 fun e => (h4 e).1, g 36 fun e => (h4 e).2.1, g 45 fun e => (h4 e).2.2]
    exact ⟨h3, h5, h6⟩
theorem touch_wp (h : RA b0 σ A) (hd : RD0 b0 σ ad ln B c un ns nl) {b : Nat} (hb : b < 6200) : wp (FR b0) σ (m_X12_touch b0 fu (b0 + 35) (nI b) σ) (fun _ τ => RA b0 τ (up2 A 51 b 1) ∧ RD0 b0 τ ad ln B c un ns nl) := by
  have L := h.lay
  simp (disch := first | assumption | omega) only [m_X12_touch, lits, nI_add, pk_mul, ofi, ltb_def, cll_some, grw_same, osm_some, ckZ_0, ckZ_1, nI_cl, nI_eqP, nI_leP, nI_ltP, nI_dv, nI_md, nI_sb, ckI_n, ckR_35 L, rfR_35_26 L, ckR_51 L]
  refine wp_grw (FR_good b0) (wp_ret (FR_sI (refO_f 51 (by omega) (by omega))) ⟨RA_up h rfl (by decide), RD0_fix hd (Or.inl rfl) (by omega)⟩)
end RP
