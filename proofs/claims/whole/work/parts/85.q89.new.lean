/-! ===== PURE: the relation after recovery's journal, in both ===== -/
section NEX
variable {Φ : tPh} {b0 fu : Nat} {σ τ : tM} {bi sp : Nat → Nat} {w : Nat → Nat × Nat} {C C' C1 X : tS} {D D' D1 D2 : tD} {A B : tS} {J J' : tJ} {K n m k r b id wh e o un fr to en : Nat} {s : Nat → Nat}
theorem rsC_f : (∀ p, p ≠ 10 → p ≠ 15 → p ≠ 16 → p ≠ 19 → p ≠ 20 → rsC C to p = C p) ∧ (∀ q, rsC C to 20 q = if q = 10 then C 20 11 else if q = 9 then 0 else if 12 ≤ q ∧ q ≤ 16 then to else C 20 q) ∧ (∀ q, rsC C to 10 q = if q = 11 ∨ q = 12 then 0 else if q = 16 then to + 1 else C 10 q) ∧ (∀ q, rsC C to 15 q = 0 ∧ rsC C to 16 q = 0) := by
  unfold rsC
  refine ⟨fun p a b c d e => ?_, fun q => ?_, fun q => ?_, fun q => ⟨?_, ?_⟩⟩
  · rw [fl_row d]
    funext q
    unfold emF
    rw [if_neg (by omega), if_neg a, up2_o e, up2_o e, up2_o e, up2_o e, up2_o e, up2_o e, up2_o e]
  · rw [fl_row (by decide)]
    unfold emF
    rw [if_neg (by decide), if_neg (by decide)]
    by_cases c1 : q = 10
    · rw [if_pos c1, c1, up2_s]
    rw [if_neg c1, up2_j c1]
    by_cases c2 : q = 9
    · rw [if_pos c2, c2, up2_s]
    rw [if_neg c2, up2_j c2]
    by_cases c3 : 12 ≤ q ∧ q ≤ 16
    · rw [if_pos c3]
      unfold up2
      have : q = 12 ∨ q = 13 ∨ q = 14 ∨ q = 15 ∨ q = 16 := by omega
      rcases this with e | e | e | e | e <;> subst e <;> simp
    · rw [if_neg c3, up2_j (by omega), up2_j (by omega), up2_j (by omega), up2_j (by omega), up2_j (by omega)]
  · rw [fl_row (by decide)]
    unfold emF
    rw [if_neg (by decide), if_pos rfl, up2_o (by decide), up2_o (by decide), up2_o (by decide), up2_o (by decide), up2_o (by decide), up2_o (by decide), up2_o (by decide)]
  · rw [fl_row (by decide)]
    unfold emF
    rw [if_pos (Or.inl rfl)]
  · rw [fl_row (by decide)]
    unfold emF
    rw [if_pos (Or.inr rfl)]
theorem ci_rs (h : ci C) : ci (rsC C to) := by
  obtain ⟨⟨a1, a2, a3⟩, ⟨b1, b2, b3⟩, c⟩ := h
  obtain ⟨r1, r2, r3, r4⟩ := rsC_f (C := C) (to := to)
  have e17 : rsC C to 17 = C 17 := r1 17 (by decide) (by decide) (by decide) (by decide) (by decide)
  refine ⟨⟨?_, ?_, ?_⟩, ⟨?_, ?_, ?_⟩, fun x hx => ?_⟩
  · rw [r3, if_neg (by decide), if_neg (by decide)]; exact a1
  · rw [r3, if_neg (by decide), if_neg (by decide)]; exact a2
  · rw [r3, if_neg (by decide), if_neg (by decide)]; exact a3
  · rw [r3, if_pos (by decide)]
    exact (cn_all0 2034 0 (fun x _ _ => by simp [(r4 x).1])).symm
  · rw [r3, if_pos (by decide)]
    exact (cn_all0 2034 0 (fun x _ _ => by simp [(r4 x).2])).symm
  · rw [r3, if_neg (by decide), if_neg (by decide), e17]; exact b3
  · rw [r3, if_neg (by decide), if_neg (by decide)] at hx
    exact ⟨(r4 x).1, (r4 x).2, by rw [e17]; exact (c x hx).2.2⟩
end NEX
