/-! ===== PURE: a byte read, in both ===== -/
section SRY
variable {bi : Nat → Nat} {w : Nat → Nat × Nat} {C A : tS} {n : Nat}
theorem oct_eq {p : Nat} (h : SR bi w C A) (hn : n < 64) (hk : nd A n 0 = 1) (hp : p / 256 < 1064) : ocC C (ptC C n (p / 256) % 2048) (p % 256) = boA A n p := by
  unfold boA
  by_cases c : hasA A n (p / 256) = 0
  · have e := (pt_c h.ok h.ti h.mr hn (show nd A n 0 ≠ 3 by omega) hp).1
    rw [if_pos c, e, c]
    show ocC C 0 (p % 256) = 0
    rw [oc_o (by rw [h.zm.1.1]; omega)]
    refine oW_0 ?_
    exact h.mr.1 _ (by omega)
  · obtain ⟨r, hr, rlt, hu, hw, hcl, h7⟩ := cell_c h hn (by omega) hp c
    have r2 : r < 2000 := by have := h.zm.1.2.2.2.1; omega
    rw [if_neg c, hcl, oc_o h7, hr, show r + 1 - 1 = r by omega]
    exact h.fb r r2 hu (by rw [hw]; show p / 256 < 2000; omega) (by rw [hw]; exact hk) (p % 256) (by omega)
/-- the number of a file's block -/
theorem blk_eq {i : Nat} (h : SR bi w C A) (hn : n < 64) (h3 : nd A n 0 ≠ 3) (hi : i < 1064) : (ptC C n i % 2048 = 0 ↔ hasA A n i = 0) ∧ (hasA A n i ≠ 0 → nbC C (ptC C n i % 2048) = 34 + A 35 6 + (hasA A n i - 1)) := by
  have e := (pt_c h.ok h.ti h.mr hn h3 hi).1
  constructor
  · by_cases c : hasA A n i = 0
    · rw [e, c]
      exact ⟨fun _ => rfl, fun _ => rfl⟩
    · obtain ⟨r, hr, rlt, hu, hw, hcl, h7⟩ := cell_c h hn h3 hi c
      rw [hcl]
      exact ⟨fun q => by omega, fun q => absurd q c⟩
  · intro c
    obtain ⟨r, hr, rlt, hu, hw, hcl, h7⟩ := cell_c h hn h3 hi c
    rw [hcl, hr]
    unfold nbC
    rw [if_pos (by omega), h.zm.1.2.1]
    omega
end SRY
