/-! ===== PURE: the class before there is a reference (written by wip/gen/gen_cz.py): its cells ===== -/
def LayCz (b0 : Nat) (σ : tM) : Prop := 33 ≤ tn σ ∧ tk σ (b0 + 0) = .inl 10 ∧ tk σ (b0 + 1) = .inl 0 ∧ tk σ (b0 + 2) = .inr (0, 6130) ∧ tk σ (b0 + 3) = .inr (4, 6130) ∧ tk σ (b0 + 4) = .inr (0, 6130) ∧ tk σ (b0 + 5) = .inr (0, 6130) ∧ tk σ (b0 + 6) = .inr (0, 256) ∧ tk σ (b0 + 7) = .inr (0, 256) ∧ tk σ (b0 + 8) = .inr (4, 256) ∧ tk σ (b0 + 9) = .inr (2, 256) ∧ tk σ (b0 + 10) = .inl 5 ∧ tk σ (b0 + 11) = .inr (3, 65536) ∧ tk σ (b0 + 12) = .inr (0, 2034) ∧ tk σ (b0 + 13) = .inr (0, 2034) ∧ tk σ (b0 + 14) = .inr (1, 2034) ∧ tk σ (b0 + 15) = .inr (1, 2034) ∧ tk σ (b0 + 16) = .inr (1, 2034) ∧ tk σ (b0 + 17) = .inr (1, 2034) ∧ tk σ (b0 + 18) = .inl 8 ∧ tk σ (b0 + 19) = .inr (1, 64) ∧ tk σ (b0 + 20) = .inl 1 ∧ tk σ (b0 + 21) = .inr (4, 2034) ∧ tk σ (b0 + 22) = .inr (1, 2034) ∧ tk σ (b0 + 23) = .inl 2 ∧ tk σ (b0 + 24) = .inl 9 ∧ tk σ (b0 + 25) = .inr (1, 760) ∧ tk σ (b0 + 26) = .inl 6 ∧ tk σ (b0 + 27) = .inr (1, 4000) ∧ tk σ (b0 + 28) = .inl 3 ∧ tk σ (b0 + 29) = .inr (1, 120) ∧ tk σ (b0 + 30) = .inl 3 ∧ tk σ (b0 + 31) = .inr (1, 120) ∧ tk σ (b0 + 32) = .inr (0, 16) ∧ tA σ (b0 + 0) 0 = some (b0 + 1) ∧ tA σ (b0 + 0) 1 = some (b0 + 10) ∧ tA σ (b0 + 0) 2 = some (b0 + 18) ∧ tA σ (b0 + 0) 3 = some (b0 + 20) ∧ tA σ (b0 + 0) 4 = some (b0 + 23) ∧ tA σ (b0 + 0) 5 = some (b0 + 24) ∧ tA σ (b0 + 0) 6 = some (b0 + 26) ∧ tA σ (b0 + 0) 7 = some (b0 + 28) ∧ tA σ (b0 + 0) 8 = some (b0 + 30) ∧ tA σ (b0 + 0) 9 = some (b0 + 32) ∧ tA σ (b0 + 1) 0 = some (b0 + 2) ∧ tA σ (b0 + 1) 1 = some (b0 + 3) ∧ tA σ (b0 + 1) 2 = some (b0 + 4) ∧ tA σ (b0 + 1) 3 = some (b0 + 5) ∧ tA σ (b0 + 1) 4 = some (b0 + 6) ∧ tA σ (b0 + 1) 5 = some (b0 + 7) ∧ tA σ (b0 + 1) 6 = some (b0 + 8) ∧ tA σ (b0 + 1) 7 = some (b0 + 9) ∧ tA σ (b0 + 10) 0 = some (b0 + 11) ∧ tA σ (b0 + 10) 1 = some (b0 + 12) ∧ tA σ (b0 + 10) 2 = some (b0 + 13) ∧ tA σ (b0 + 10) 3 = some (b0 + 14) ∧ tA σ (b0 + 10) 4 = some (b0 + 15) ∧ tA σ (b0 + 10) 5 = some (b0 + 16) ∧ tA σ (b0 + 10) 6 = some (b0 + 17) ∧ tA σ (b0 + 18) 0 = some (b0 + 10) ∧ tA σ (b0 + 18) 1 = some (b0 + 11) ∧ tA σ (b0 + 18) 2 = some (b0 + 19) ∧ tA σ (b0 + 20) 0 = some (b0 + 1) ∧ tA σ (b0 + 20) 1 = some (b0 + 10) ∧ tA σ (b0 + 20) 2 = some (b0 + 18) ∧ tA σ (b0 + 20) 3 = some (b0 + 21) ∧ tA σ (b0 + 20) 4 = some (b0 + 22) ∧ tA σ (b0 + 23) 0 = some (b0 + 1) ∧ tA σ (b0 + 23) 1 = some (b0 + 10) ∧ tA σ (b0 + 23) 2 = some (b0 + 18) ∧ tA σ (b0 + 23) 3 = some (b0 + 20) ∧ tA σ (b0 + 24) 0 = some (b0 + 18) ∧ tA σ (b0 + 24) 1 = some (b0 + 25) ∧ tA σ (b0 + 26) 0 = some (b0 + 27) ∧ tA σ (b0 + 28) 0 = some (b0 + 29) ∧ tA σ (b0 + 30) 0 = some (b0 + 31)
theorem ckC_0z {β : Type} {b0 : Nat} {σ : tM} {k : Option β} (h : LayCz b0 σ) : ckO b0 σ (b0 + 0) 10 k = k := ckO_p h.2.1 ⟨Nat.le_add_right _ _, by have := h.1; omega⟩
theorem ckC_1z {β : Type} {b0 : Nat} {σ : tM} {k : Option β} (h : LayCz b0 σ) : ckO b0 σ (b0 + 1) 0 k = k := ckO_p h.2.2.1 ⟨Nat.le_add_right _ _, by have := h.1; omega⟩
theorem ckC_2z {β : Type} {b0 : Nat} {σ : tM} {k : Nat → Option β} (h : LayCz b0 σ) : ckR b0 σ (b0 + 2) 0 k = k 6130 := ckR_p h.2.2.2.1 ⟨Nat.le_add_right _ _, by have := h.1; omega⟩
theorem ckC_4z {β : Type} {b0 : Nat} {σ : tM} {k : Nat → Option β} (h : LayCz b0 σ) : ckR b0 σ (b0 + 4) 0 k = k 6130 := ckR_p h.2.2.2.2.2.1 ⟨Nat.le_add_right _ _, by have := h.1; omega⟩
theorem ckC_5z {β : Type} {b0 : Nat} {σ : tM} {k : Nat → Option β} (h : LayCz b0 σ) : ckR b0 σ (b0 + 5) 0 k = k 6130 := ckR_p h.2.2.2.2.2.2.1 ⟨Nat.le_add_right _ _, by have := h.1; omega⟩
theorem ckC_10z {β : Type} {b0 : Nat} {σ : tM} {k : Option β} (h : LayCz b0 σ) : ckO b0 σ (b0 + 10) 5 k = k := ckO_p h.2.2.2.2.2.2.2.2.2.2.2.1 ⟨Nat.le_add_right _ _, by have := h.1; omega⟩
theorem ckC_11z {β : Type} {b0 : Nat} {σ : tM} {k : Nat → Option β} (h : LayCz b0 σ) : ckR b0 σ (b0 + 11) 3 k = k 65536 := ckR_p h.2.2.2.2.2.2.2.2.2.2.2.2.1 ⟨Nat.le_add_right _ _, by have := h.1; omega⟩
theorem ckC_12z {β : Type} {b0 : Nat} {σ : tM} {k : Nat → Option β} (h : LayCz b0 σ) : ckR b0 σ (b0 + 12) 0 k = k 2034 := ckR_p h.2.2.2.2.2.2.2.2.2.2.2.2.2.1 ⟨Nat.le_add_right _ _, by have := h.1; omega⟩
theorem ckC_15z {β : Type} {b0 : Nat} {σ : tM} {k : Nat → Option β} (h : LayCz b0 σ) : ckR b0 σ (b0 + 15) 1 k = k 2034 := ckR_p h.2.2.2.2.2.2.2.2.2.2.2.2.2.2.2.2.1 ⟨Nat.le_add_right _ _, by have := h.1; omega⟩
theorem ckC_16z {β : Type} {b0 : Nat} {σ : tM} {k : Nat → Option β} (h : LayCz b0 σ) : ckR b0 σ (b0 + 16) 1 k = k 2034 := ckR_p h.2.2.2.2.2.2.2.2.2.2.2.2.2.2.2.2.2.1 ⟨Nat.le_add_right _ _, by have := h.1; omega⟩
theorem ckC_17z {β : Type} {b0 : Nat} {σ : tM} {k : Nat → Option β} (h : LayCz b0 σ) : ckR b0 σ (b0 + 17) 1 k = k 2034 := ckR_p h.2.2.2.2.2.2.2.2.2.2.2.2.2.2.2.2.2.2.1 ⟨Nat.le_add_right _ _, by have := h.1; omega⟩
theorem ckC_18z {β : Type} {b0 : Nat} {σ : tM} {k : Option β} (h : LayCz b0 σ) : ckO b0 σ (b0 + 18) 8 k = k := ckO_p h.2.2.2.2.2.2.2.2.2.2.2.2.2.2.2.2.2.2.2.1 ⟨Nat.le_add_right _ _, by have := h.1; omega⟩
theorem rkC19z {b0 : Nat} {σ : tM} (h : LayCz b0 σ) : tk σ (b0 + 19) = .inr (1, 64) := h.2.2.2.2.2.2.2.2.2.2.2.2.2.2.2.2.2.2.2.2.1
theorem ckC_19z {β : Type} {b0 : Nat} {σ : tM} {k : Nat → Option β} (h : LayCz b0 σ) : ckR b0 σ (b0 + 19) 1 k = k 64 := ckR_p h.2.2.2.2.2.2.2.2.2.2.2.2.2.2.2.2.2.2.2.2.1 ⟨Nat.le_add_right _ _, by have := h.1; omega⟩
theorem ckC_20z {β : Type} {b0 : Nat} {σ : tM} {k : Option β} (h : LayCz b0 σ) : ckO b0 σ (b0 + 20) 1 k = k := ckO_p h.2.2.2.2.2.2.2.2.2.2.2.2.2.2.2.2.2.2.2.2.2.1 ⟨Nat.le_add_right _ _, by have := h.1; omega⟩
theorem ckC_26z {β : Type} {b0 : Nat} {σ : tM} {k : Option β} (h : LayCz b0 σ) : ckO b0 σ (b0 + 26) 6 k = k := ckO_p h.2.2.2.2.2.2.2.2.2.2.2.2.2.2.2.2.2.2.2.2.2.2.2.2.2.2.2.1 ⟨Nat.le_add_right _ _, by have := h.1; omega⟩
theorem ckC_28z {β : Type} {b0 : Nat} {σ : tM} {k : Option β} (h : LayCz b0 σ) : ckO b0 σ (b0 + 28) 3 k = k := ckO_p h.2.2.2.2.2.2.2.2.2.2.2.2.2.2.2.2.2.2.2.2.2.2.2.2.2.2.2.2.2.1 ⟨Nat.le_add_right _ _, by have := h.1; omega⟩
theorem ckC_30z {β : Type} {b0 : Nat} {σ : tM} {k : Option β} (h : LayCz b0 σ) : ckO b0 σ (b0 + 30) 3 k = k := ckO_p h.2.2.2.2.2.2.2.2.2.2.2.2.2.2.2.2.2.2.2.2.2.2.2.2.2.2.2.2.2.2.2.1 ⟨Nat.le_add_right _ _, by have := h.1; omega⟩
theorem ckC_32z {β : Type} {b0 : Nat} {σ : tM} {k : Nat → Option β} (h : LayCz b0 σ) : ckR b0 σ (b0 + 32) 0 k = k 16 := ckR_p h.2.2.2.2.2.2.2.2.2.2.2.2.2.2.2.2.2.2.2.2.2.2.2.2.2.2.2.2.2.2.2.2.2.1 ⟨Nat.le_add_right _ _, by have := h.1; omega⟩
theorem rfC_0_6z {b0 : Nat} {σ : tM} (h : LayCz b0 σ) : tA σ (b0 + 0) 6 = some (b0 + 26) := h.2.2.2.2.2.2.2.2.2.2.2.2.2.2.2.2.2.2.2.2.2.2.2.2.2.2.2.2.2.2.2.2.2.2.2.2.2.2.2.2.1
theorem rfC_0_7z {b0 : Nat} {σ : tM} (h : LayCz b0 σ) : tA σ (b0 + 0) 7 = some (b0 + 28) := h.2.2.2.2.2.2.2.2.2.2.2.2.2.2.2.2.2.2.2.2.2.2.2.2.2.2.2.2.2.2.2.2.2.2.2.2.2.2.2.2.2.1
theorem rfC_0_8z {b0 : Nat} {σ : tM} (h : LayCz b0 σ) : tA σ (b0 + 0) 8 = some (b0 + 30) := h.2.2.2.2.2.2.2.2.2.2.2.2.2.2.2.2.2.2.2.2.2.2.2.2.2.2.2.2.2.2.2.2.2.2.2.2.2.2.2.2.2.2.1
theorem rfC_0_9z {b0 : Nat} {σ : tM} (h : LayCz b0 σ) : tA σ (b0 + 0) 9 = some (b0 + 32) := h.2.2.2.2.2.2.2.2.2.2.2.2.2.2.2.2.2.2.2.2.2.2.2.2.2.2.2.2.2.2.2.2.2.2.2.2.2.2.2.2.2.2.2.1
theorem rfC_1_0z {b0 : Nat} {σ : tM} (h : LayCz b0 σ) : tA σ (b0 + 1) 0 = some (b0 + 2) := h.2.2.2.2.2.2.2.2.2.2.2.2.2.2.2.2.2.2.2.2.2.2.2.2.2.2.2.2.2.2.2.2.2.2.2.2.2.2.2.2.2.2.2.2.1
theorem rfC_1_2z {b0 : Nat} {σ : tM} (h : LayCz b0 σ) : tA σ (b0 + 1) 2 = some (b0 + 4) := h.2.2.2.2.2.2.2.2.2.2.2.2.2.2.2.2.2.2.2.2.2.2.2.2.2.2.2.2.2.2.2.2.2.2.2.2.2.2.2.2.2.2.2.2.2.2.1
theorem rfC_1_3z {b0 : Nat} {σ : tM} (h : LayCz b0 σ) : tA σ (b0 + 1) 3 = some (b0 + 5) := h.2.2.2.2.2.2.2.2.2.2.2.2.2.2.2.2.2.2.2.2.2.2.2.2.2.2.2.2.2.2.2.2.2.2.2.2.2.2.2.2.2.2.2.2.2.2.2.1
theorem rfC_10_0z {b0 : Nat} {σ : tM} (h : LayCz b0 σ) : tA σ (b0 + 10) 0 = some (b0 + 11) := h.2.2.2.2.2.2.2.2.2.2.2.2.2.2.2.2.2.2.2.2.2.2.2.2.2.2.2.2.2.2.2.2.2.2.2.2.2.2.2.2.2.2.2.2.2.2.2.2.2.2.2.2.1
theorem rfC_10_1z {b0 : Nat} {σ : tM} (h : LayCz b0 σ) : tA σ (b0 + 10) 1 = some (b0 + 12) := h.2.2.2.2.2.2.2.2.2.2.2.2.2.2.2.2.2.2.2.2.2.2.2.2.2.2.2.2.2.2.2.2.2.2.2.2.2.2.2.2.2.2.2.2.2.2.2.2.2.2.2.2.2.1
theorem rfC_10_4z {b0 : Nat} {σ : tM} (h : LayCz b0 σ) : tA σ (b0 + 10) 4 = some (b0 + 15) := h.2.2.2.2.2.2.2.2.2.2.2.2.2.2.2.2.2.2.2.2.2.2.2.2.2.2.2.2.2.2.2.2.2.2.2.2.2.2.2.2.2.2.2.2.2.2.2.2.2.2.2.2.2.2.2.2.1
theorem rfC_10_5z {b0 : Nat} {σ : tM} (h : LayCz b0 σ) : tA σ (b0 + 10) 5 = some (b0 + 16) := h.2.2.2.2.2.2.2.2.2.2.2.2.2.2.2.2.2.2.2.2.2.2.2.2.2.2.2.2.2.2.2.2.2.2.2.2.2.2.2.2.2.2.2.2.2.2.2.2.2.2.2.2.2.2.2.2.2.1
theorem rfC_10_6z {b0 : Nat} {σ : tM} (h : LayCz b0 σ) : tA σ (b0 + 10) 6 = some (b0 + 17) := h.2.2.2.2.2.2.2.2.2.2.2.2.2.2.2.2.2.2.2.2.2.2.2.2.2.2.2.2.2.2.2.2.2.2.2.2.2.2.2.2.2.2.2.2.2.2.2.2.2.2.2.2.2.2.2.2.2.2.1
theorem rfC_18_0z {b0 : Nat} {σ : tM} (h : LayCz b0 σ) : tA σ (b0 + 18) 0 = some (b0 + 10) := h.2.2.2.2.2.2.2.2.2.2.2.2.2.2.2.2.2.2.2.2.2.2.2.2.2.2.2.2.2.2.2.2.2.2.2.2.2.2.2.2.2.2.2.2.2.2.2.2.2.2.2.2.2.2.2.2.2.2.2.1
theorem rfC_18_1z {b0 : Nat} {σ : tM} (h : LayCz b0 σ) : tA σ (b0 + 18) 1 = some (b0 + 11) := h.2.2.2.2.2.2.2.2.2.2.2.2.2.2.2.2.2.2.2.2.2.2.2.2.2.2.2.2.2.2.2.2.2.2.2.2.2.2.2.2.2.2.2.2.2.2.2.2.2.2.2.2.2.2.2.2.2.2.2.2.1
theorem rfC_18_2z {b0 : Nat} {σ : tM} (h : LayCz b0 σ) : tA σ (b0 + 18) 2 = some (b0 + 19) := h.2.2.2.2.2.2.2.2.2.2.2.2.2.2.2.2.2.2.2.2.2.2.2.2.2.2.2.2.2.2.2.2.2.2.2.2.2.2.2.2.2.2.2.2.2.2.2.2.2.2.2.2.2.2.2.2.2.2.2.2.2.1
theorem rfC_20_1z {b0 : Nat} {σ : tM} (h : LayCz b0 σ) : tA σ (b0 + 20) 1 = some (b0 + 10) := h.2.2.2.2.2.2.2.2.2.2.2.2.2.2.2.2.2.2.2.2.2.2.2.2.2.2.2.2.2.2.2.2.2.2.2.2.2.2.2.2.2.2.2.2.2.2.2.2.2.2.2.2.2.2.2.2.2.2.2.2.2.2.2.1
theorem rfC_20_2z {b0 : Nat} {σ : tM} (h : LayCz b0 σ) : tA σ (b0 + 20) 2 = some (b0 + 18) := h.2.2.2.2.2.2.2.2.2.2.2.2.2.2.2.2.2.2.2.2.2.2.2.2.2.2.2.2.2.2.2.2.2.2.2.2.2.2.2.2.2.2.2.2.2.2.2.2.2.2.2.2.2.2.2.2.2.2.2.2.2.2.2.2.1
def CAz (b0 : Nat) (σ : tM) (C : Nat → Nat → Nat) : Prop := LayCz b0 σ ∧ (∀ o j, isC o j = true → tI σ (b0 + o) j = decC o j (C o j)) ∧ (∀ j, tL σ (b0 + 11) j = lN (C 11 j)) ∧ okC C
section CZ1
variable {b0 : Nat} {σ τ : tM} {C : Nat → Nat → Nat}
theorem CAz.lay (h : CAz b0 σ C) : LayCz b0 σ := h.1
end CZ1
section CZ2
variable {b0 : Nat} {σ τ : tM} {C : Nat → Nat → Nat}
theorem cd_11z (h : CAz b0 σ C) (j : Nat) : tL σ (b0 + 11) j = lN (C 11 j) := h.2.2.1 j
end CZ2
section CZ3
variable {b0 : Nat} {σ τ : tM} {C : Nat → Nat → Nat}
theorem cb_11z (h : CAz b0 σ C) (j : Nat) : C 11 j < 18446744073709551616 := h.2.2.2 11 j
end CZ3
section CZ4
variable {b0 : Nat} {σ τ : tM} {C : Nat → Nat → Nat}
theorem cd_15z (h : CAz b0 σ C) (j : Nat) : tI σ (b0 + 15) j = nI (C 15 j) := h.2.1 15 j rfl
end CZ4
section CZ5
variable {b0 : Nat} {σ τ : tM} {C : Nat → Nat → Nat}
theorem cb_15z (h : CAz b0 σ C) (j : Nat) : C 15 j < 2 := h.2.2.2 15 j
end CZ5
section CZ6
variable {b0 : Nat} {σ τ : tM} {C : Nat → Nat → Nat}
theorem cd_16z (h : CAz b0 σ C) (j : Nat) : tI σ (b0 + 16) j = nI (C 16 j) := h.2.1 16 j rfl
end CZ6
section CZ7
variable {b0 : Nat} {σ τ : tM} {C : Nat → Nat → Nat}
theorem cb_16z (h : CAz b0 σ C) (j : Nat) : C 16 j < 2 := h.2.2.2 16 j
end CZ7
section CZ8
variable {b0 : Nat} {σ τ : tM} {C : Nat → Nat → Nat}
theorem cd_17z (h : CAz b0 σ C) (j : Nat) : tI σ (b0 + 17) j = nI (C 17 j) := h.2.1 17 j rfl
end CZ8
section CZ9
variable {b0 : Nat} {σ τ : tM} {C : Nat → Nat → Nat}
theorem cb_17z (h : CAz b0 σ C) (j : Nat) : C 17 j < 2 := h.2.2.2 17 j
end CZ9
section CZ10
variable {b0 : Nat} {σ τ : tM} {C : Nat → Nat → Nat}
theorem cf_1_8z (h : CAz b0 σ C) : tI σ (b0 + 1) 8 = nI (C 1 8) := h.2.1 1 8 rfl
end CZ10
section CZ11
variable {b0 : Nat} {σ τ : tM} {C : Nat → Nat → Nat}
theorem cf_10_7z (h : CAz b0 σ C) : tI σ (b0 + 10) 7 = nI (C 10 7) := h.2.1 10 7 rfl
end CZ11
section CZ12
variable {b0 : Nat} {σ τ : tM} {C : Nat → Nat → Nat}
theorem cf_10_9z (h : CAz b0 σ C) : tI σ (b0 + 10) 9 = nI (C 10 9) := h.2.1 10 9 rfl
end CZ12
section CZ13
variable {b0 : Nat} {σ τ : tM} {C : Nat → Nat → Nat}
theorem cf_10_11z (h : CAz b0 σ C) : tI σ (b0 + 10) 11 = nI (C 10 11) := h.2.1 10 11 rfl
end CZ13
section CZ14
variable {b0 : Nat} {σ τ : tM} {C : Nat → Nat → Nat}
theorem cf_10_12z (h : CAz b0 σ C) : tI σ (b0 + 10) 12 = nI (C 10 12) := h.2.1 10 12 rfl
end CZ14
section CZ15
variable {b0 : Nat} {σ τ : tM} {C : Nat → Nat → Nat}
theorem cf_10_13z (h : CAz b0 σ C) : tI σ (b0 + 10) 13 = nI (C 10 13) := h.2.1 10 13 rfl
end CZ15
section CZ16
variable {b0 : Nat} {σ τ : tM} {C : Nat → Nat → Nat}
theorem cf_10_16z (h : CAz b0 σ C) : tI σ (b0 + 10) 16 = nI (C 10 16) := h.2.1 10 16 rfl
end CZ16
section CZ17
variable {b0 : Nat} {σ τ : tM} {C : Nat → Nat → Nat}
theorem cb_10z (h : CAz b0 σ C) (j : Nat) : C 10 j < 2147483648 := h.2.2.2 10 j
end CZ17
section CZ18
variable {b0 : Nat} {σ τ : tM} {C : Nat → Nat → Nat}
theorem cf_20_11z (h : CAz b0 σ C) : tI σ (b0 + 20) 11 = nI (C 20 11) := h.2.1 20 11 rfl
end CZ18
section CZ19
variable {b0 : Nat} {σ τ : tM} {C : Nat → Nat → Nat}
theorem cb_20z (h : CAz b0 σ C) (j : Nat) : C 20 j < 2147483648 := h.2.2.2 20 j
end CZ19
section CZ20
variable {b0 : Nat} {σ τ : tM} {C : Nat → Nat → Nat}
theorem CA_upz {o j x : Nat} {v : Int32} (h : CAz b0 σ C) (ho : o ≠ 11) (hv : v = decC o j x) (hx : x < bndC o) : CAz b0 (sI σ (b0 + o) j v) (up2 C o j x) := by
  refine ⟨h.1, fun p q e => ?_, fun q => ?_, okC_up h.2.2.2 hx⟩
  · rw [rd_II]
    by_cases hp : p = o
    · subst hp
      rw [if_pos rfl]
      by_cases hq : q = j
      · subst hq
        rw [if_pos rfl, up2_s, hv]
      · rw [if_neg hq, up2_j hq, h.2.1 p q e]
    · rw [if_neg (by omega), up2_o hp, h.2.1 p q e]
  · rw [up2_o (fun e => ho e.symm)]
    exact h.2.2.1 q
end CZ20
section CZ21
variable {b0 : Nat} {σ τ : tM} {C : Nat → Nat → Nat}
theorem CA_upLz {j x : Nat} (h : CAz b0 σ C) (hx : x < 18446744073709551616) : CAz b0 (sL σ (b0 + 11) j (lN x)) (up2 C 11 j x) := by
  refine ⟨h.1, fun p q e => ?_, fun q => ?_, okC_up h.2.2.2 hx⟩
  · have hp : p ≠ 11 := fun r => by subst r; cases e
    rw [up2_o hp]
    exact h.2.1 p q e
  · rw [rd_LL, if_pos rfl]
    by_cases hq : q = j
    · subst hq
      rw [if_pos rfl, up2_s]
    · rw [if_neg hq, up2_j hq, h.2.2.1 q]
end CZ21
section CZB
variable {b0 : Nat} {σ τ : tM} {C : Nat → Nat → Nat} {D : tD}
def rfOz (_ : Nat) (_ : tM) : Prop := True
def CMz (b0 : Nat) (σ : tM) (C : Nat → Nat → Nat) (D : tD) : Prop := CAz b0 σ C ∧ D = D
/-- only numbers and words of the class's own cells change -/
def FCz (b0 : Nat) (σ τ : tM) : Prop := tn τ = tn σ ∧ tu τ = tu σ ∧ tk τ = tk σ ∧ tA τ = tA σ ∧ ∀ a, b0 + 33 ≤ a → tI τ a = tI σ a ∧ tL τ a = tL σ a
theorem FC_goodz (b0 : Nat) : goodF (FCz b0) := ⟨fun σ => ⟨rfl, rfl, rfl, rfl, fun _ _ => ⟨rfl, rfl⟩⟩, fun σ τ ρ h k => ⟨k.1.trans h.1, k.2.1.trans h.2.1, k.2.2.1.trans h.2.2.1, k.2.2.2.1.trans h.2.2.2.1, fun a ha => ⟨(k.2.2.2.2 a ha).1.trans (h.2.2.2.2 a ha).1, (k.2.2.2.2 a ha).2.trans (h.2.2.2.2 a ha).2⟩⟩, fun σ τ h => ⟨Nat.le_of_eq h.1.symm, Nat.le_of_eq h.2.1.symm⟩⟩
theorem CMz.ca (h : CMz b0 σ C D) : CAz b0 σ C := h.1
theorem CMz.lay (h : CMz b0 σ C D) : LayCz b0 σ := h.1.1
theorem CMz.rf (_ : CMz b0 σ C D) : rfOz b0 σ := trivial
theorem CM_fixz (h : CMz b0 σ C D) {o j x : Nat} {v : Int32} (ho : isC o j = true) (hv : v = decC o j x) (hx : x < bndC o) : CMz b0 (sI σ (b0 + o) j v) (up2 C o j x) D := by
  have n11 : o ≠ 11 := fun e => by subst e; cases ho
  exact ⟨CA_upz h.1 n11 hv hx, rfl⟩
theorem CM_fixLz (h : CMz b0 σ C D) {j x : Nat} (hx : x < 18446744073709551616) : CMz b0 (sL σ (b0 + 11) j (lN x)) (up2 C 11 j x) D := ⟨CA_upLz h.1 hx, rfl⟩
theorem FC_sIz {o j : Nat} {v : Int32} (_ : rfOz b0 σ) (ho : o < 33) : FCz b0 σ (sI σ (b0 + o) j v) := ⟨rfl, rfl, rfl, rfl, fun a ha => ⟨(same_sI (σ := σ) (j := j) (v := v) (show a ≠ b0 + o by omega)).2.1, rfl⟩⟩
theorem FC_sLz {o j : Nat} {v : Int64} (_ : rfOz b0 σ) (ho : o < 33) : FCz b0 σ (sL σ (b0 + o) j v) := ⟨rfl, rfl, rfl, rfl, fun a ha => ⟨rfl, (same_sL (σ := σ) (j := j) (v := v) (show a ≠ b0 + o by omega)).2.2.1⟩⟩
theorem FC_2z {ρ : tM} (h1 : FCz b0 σ τ) (h2 : FCz b0 τ ρ) : FCz b0 σ ρ := (FC_goodz b0).2.1 _ _ _ h1 h2
end CZB
