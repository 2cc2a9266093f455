/-! ===== PURE: what the class holds in its fixed cells, as one function of cell and place (written by wip/gen/gen_ca.py) ===== -/
def isC (o j : Nat) : Bool := match o with
  | 1 => j == 8 || j == 9 || j == 10 || j == 11 || j == 12 || j == 13 || j == 14
  | 10 => j == 7 || j == 8 || j == 9 || j == 10 || j == 11 || j == 12 || j == 13 || j == 14 || j == 15 || j == 16
  | 20 => j == 8 || j == 9 || j == 10 || j == 11 || j == 12 || j == 13 || j == 14 || j == 15 || j == 16 || j == 17
  | 24 => j == 2 || j == 3 || j == 4
  | 26 => j == 1
  | 28 => j == 1 || j == 2 || j == 3 || j == 4
  | 30 => j == 1 || j == 2 || j == 3 || j == 4
  | 2 => true
  | 4 => true
  | 5 => true
  | 6 => true
  | 7 => true
  | 9 => true
  | 12 => true
  | 13 => true
  | 14 => true
  | 15 => true
  | 16 => true
  | 17 => true
  | 19 => true
  | 22 => true
  | 25 => true
  | 27 => true
  | 29 => true
  | 31 => true
  | 32 => true
  | _ => false
def decC (o j x : Nat) : Int32 := match o with
  | 1 => if j = 13 then nI x - 1 else nI x
  | 28 => if j = 4 then nI x - 16 else nI x
  | 30 => if j = 4 then nI x - 16 else nI x
  | 25 => sb x
  | 27 => sb x
  | 29 => sb x
  | 31 => sb x
  | 12 => nI x - 1
  | 32 => nI x - 1
  | _ => nI x
def bndC (o : Nat) : Nat := match o with
  | 11 => 18446744073709551616
  | 25 => 256
  | 27 => 256
  | 29 => 256
  | 31 => 256
  | 9 => 2
  | 15 => 2
  | 16 => 2
  | 17 => 2
  | 19 => 2
  | 22 => 2
  | 14 => 128
  | 100 => 18446744073709551616
  | _ => 2147483648
def bndD (o j : Nat) : Nat := match o with
  | 1 => (if j = 13 then 2147483649 else 2147483648)
  | o => bndC o
theorem bndD_le (o j : Nat) : bndC o ≤ bndD o j := by
  unfold bndD
  split
  · split
    · show 2147483648 ≤ 2147483649; omega
    · exact Nat.le_refl _
  · exact Nat.le_refl _
def okC (C : Nat → Nat → Nat) : Prop := ∀ o j, C o j < bndD o j
def CA (b0 : Nat) (σ : tM) (C : Nat → Nat → Nat) : Prop := LayC b0 σ ∧ (∀ o j, isC o j = true → tI σ (b0 + o) j = decC o j (C o j)) ∧ (∀ j, tL σ (b0 + 11) j = lN (C 11 j)) ∧ okC C
section CAS
variable {b0 : Nat} {σ τ : tM} {C : Nat → Nat → Nat}
theorem CA.lay (h : CA b0 σ C) : LayC b0 σ := h.1
theorem cd_11 (h : CA b0 σ C) (j : Nat) : tL σ (b0 + 11) j = lN (C 11 j) := h.2.2.1 j
theorem cb_11 (h : CA b0 σ C) (j : Nat) : C 11 j < 18446744073709551616 := h.2.2.2 11 j
theorem cd_2 (h : CA b0 σ C) (j : Nat) : tI σ (b0 + 2) j = nI (C 2 j) := h.2.1 2 j rfl
theorem cb_2 (h : CA b0 σ C) (j : Nat) : C 2 j < 2147483648 := h.2.2.2 2 j
theorem cd_4 (h : CA b0 σ C) (j : Nat) : tI σ (b0 + 4) j = nI (C 4 j) := h.2.1 4 j rfl
theorem cb_4 (h : CA b0 σ C) (j : Nat) : C 4 j < 2147483648 := h.2.2.2 4 j
theorem cd_5 (h : CA b0 σ C) (j : Nat) : tI σ (b0 + 5) j = nI (C 5 j) := h.2.1 5 j rfl
theorem cb_5 (h : CA b0 σ C) (j : Nat) : C 5 j < 2147483648 := h.2.2.2 5 j
theorem cd_6 (h : CA b0 σ C) (j : Nat) : tI σ (b0 + 6) j = nI (C 6 j) := h.2.1 6 j rfl
theorem cb_6 (h : CA b0 σ C) (j : Nat) : C 6 j < 2147483648 := h.2.2.2 6 j
theorem cd_7 (h : CA b0 σ C) (j : Nat) : tI σ (b0 + 7) j = nI (C 7 j) := h.2.1 7 j rfl
theorem cb_7 (h : CA b0 σ C) (j : Nat) : C 7 j < 2147483648 := h.2.2.2 7 j
theorem cd_9 (h : CA b0 σ C) (j : Nat) : tI σ (b0 + 9) j = nI (C 9 j) := h.2.1 9 j rfl
theorem cb_9 (h : CA b0 σ C) (j : Nat) : C 9 j < 2 := h.2.2.2 9 j
theorem cd_12 (h : CA b0 σ C) (j : Nat) : tI σ (b0 + 12) j = nI (C 12 j) - 1 := h.2.1 12 j rfl
theorem cb_12 (h : CA b0 σ C) (j : Nat) : C 12 j < 2147483648 := h.2.2.2 12 j
theorem cd_13 (h : CA b0 σ C) (j : Nat) : tI σ (b0 + 13) j = nI (C 13 j) := h.2.1 13 j rfl
theorem cb_13 (h : CA b0 σ C) (j : Nat) : C 13 j < 2147483648 := h.2.2.2 13 j
theorem cd_14 (h : CA b0 σ C) (j : Nat) : tI σ (b0 + 14) j = nI (C 14 j) := h.2.1 14 j rfl
theorem cb_14 (h : CA b0 σ C) (j : Nat) : C 14 j < 128 := h.2.2.2 14 j
theorem cd_15 (h : CA b0 σ C) (j : Nat) : tI σ (b0 + 15) j = nI (C 15 j) := h.2.1 15 j rfl
theorem cb_15 (h : CA b0 σ C) (j : Nat) : C 15 j < 2 := h.2.2.2 15 j
theorem cd_16 (h : CA b0 σ C) (j : Nat) : tI σ (b0 + 16) j = nI (C 16 j) := h.2.1 16 j rfl
theorem cb_16 (h : CA b0 σ C) (j : Nat) : C 16 j < 2 := h.2.2.2 16 j
theorem cd_17 (h : CA b0 σ C) (j : Nat) : tI σ (b0 + 17) j = nI (C 17 j) := h.2.1 17 j rfl
theorem cb_17 (h : CA b0 σ C) (j : Nat) : C 17 j < 2 := h.2.2.2 17 j
theorem cd_19 (h : CA b0 σ C) (j : Nat) : tI σ (b0 + 19) j = nI (C 19 j) := h.2.1 19 j rfl
theorem cb_19 (h : CA b0 σ C) (j : Nat) : C 19 j < 2 := h.2.2.2 19 j
theorem cd_22 (h : CA b0 σ C) (j : Nat) : tI σ (b0 + 22) j = nI (C 22 j) := h.2.1 22 j rfl
theorem cb_22 (h : CA b0 σ C) (j : Nat) : C 22 j < 2 := h.2.2.2 22 j
theorem cd_25 (h : CA b0 σ C) (j : Nat) : tI σ (b0 + 25) j = sb (C 25 j) := h.2.1 25 j rfl
theorem cb_25 (h : CA b0 σ C) (j : Nat) : C 25 j < 256 := h.2.2.2 25 j
theorem cd_27 (h : CA b0 σ C) (j : Nat) : tI σ (b0 + 27) j = sb (C 27 j) := h.2.1 27 j rfl
theorem cb_27 (h : CA b0 σ C) (j : Nat) : C 27 j < 256 := h.2.2.2 27 j
theorem cd_29 (h : CA b0 σ C) (j : Nat) : tI σ (b0 + 29) j = sb (C 29 j) := h.2.1 29 j rfl
theorem cb_29 (h : CA b0 σ C) (j : Nat) : C 29 j < 256 := h.2.2.2 29 j
theorem cd_31 (h : CA b0 σ C) (j : Nat) : tI σ (b0 + 31) j = sb (C 31 j) := h.2.1 31 j rfl
theorem cb_31 (h : CA b0 σ C) (j : Nat) : C 31 j < 256 := h.2.2.2 31 j
theorem cd_32 (h : CA b0 σ C) (j : Nat) : tI σ (b0 + 32) j = nI (C 32 j) - 1 := h.2.1 32 j rfl
theorem cb_32 (h : CA b0 σ C) (j : Nat) : C 32 j < 2147483648 := h.2.2.2 32 j
theorem cf_1_8 (h : CA b0 σ C) : tI σ (b0 + 1) 8 = nI (C 1 8) := h.2.1 1 8 rfl
theorem cf_1_9 (h : CA b0 σ C) : tI σ (b0 + 1) 9 = nI (C 1 9) := h.2.1 1 9 rfl
theorem cf_1_10 (h : CA b0 σ C) : tI σ (b0 + 1) 10 = nI (C 1 10) := h.2.1 1 10 rfl
theorem cf_1_11 (h : CA b0 σ C) : tI σ (b0 + 1) 11 = nI (C 1 11) := h.2.1 1 11 rfl
theorem cf_1_12 (h : CA b0 σ C) : tI σ (b0 + 1) 12 = nI (C 1 12) := h.2.1 1 12 rfl
theorem cf_1_13 (h : CA b0 σ C) : tI σ (b0 + 1) 13 = nI (C 1 13) - 1 := h.2.1 1 13 rfl
theorem cf_1_14 (h : CA b0 σ C) : tI σ (b0 + 1) 14 = nI (C 1 14) := h.2.1 1 14 rfl
theorem cb_1 (h : CA b0 σ C) (j : Nat) (hj : j ≠ 13 := by decide) : C 1 j < 2147483648 := by
  have q : C 1 j < if j = 13 then 2147483649 else 2147483648 := h.2.2.2 1 j
  rw [if_neg hj] at q
  exact q
theorem cb_1_13 (h : CA b0 σ C) : C 1 13 < 2147483649 := h.2.2.2 1 13
theorem cf_10_7 (h : CA b0 σ C) : tI σ (b0 + 10) 7 = nI (C 10 7) := h.2.1 10 7 rfl
theorem cf_10_8 (h : CA b0 σ C) : tI σ (b0 + 10) 8 = nI (C 10 8) := h.2.1 10 8 rfl
theorem cf_10_9 (h : CA b0 σ C) : tI σ (b0 + 10) 9 = nI (C 10 9) := h.2.1 10 9 rfl
theorem cf_10_10 (h : CA b0 σ C) : tI σ (b0 + 10) 10 = nI (C 10 10) := h.2.1 10 10 rfl
theorem cf_10_11 (h : CA b0 σ C) : tI σ (b0 + 10) 11 = nI (C 10 11) := h.2.1 10 11 rfl
theorem cf_10_12 (h : CA b0 σ C) : tI σ (b0 + 10) 12 = nI (C 10 12) := h.2.1 10 12 rfl
theorem cf_10_13 (h : CA b0 σ C) : tI σ (b0 + 10) 13 = nI (C 10 13) := h.2.1 10 13 rfl
theorem cf_10_14 (h : CA b0 σ C) : tI σ (b0 + 10) 14 = nI (C 10 14) := h.2.1 10 14 rfl
theorem cf_10_15 (h : CA b0 σ C) : tI σ (b0 + 10) 15 = nI (C 10 15) := h.2.1 10 15 rfl
theorem cf_10_16 (h : CA b0 σ C) : tI σ (b0 + 10) 16 = nI (C 10 16) := h.2.1 10 16 rfl
theorem cb_10 (h : CA b0 σ C) (j : Nat) : C 10 j < 2147483648 := h.2.2.2 10 j
theorem cf_20_8 (h : CA b0 σ C) : tI σ (b0 + 20) 8 = nI (C 20 8) := h.2.1 20 8 rfl
theorem cf_20_9 (h : CA b0 σ C) : tI σ (b0 + 20) 9 = nI (C 20 9) := h.2.1 20 9 rfl
theorem cf_20_10 (h : CA b0 σ C) : tI σ (b0 + 20) 10 = nI (C 20 10) := h.2.1 20 10 rfl
theorem cf_20_11 (h : CA b0 σ C) : tI σ (b0 + 20) 11 = nI (C 20 11) := h.2.1 20 11 rfl
theorem cf_20_12 (h : CA b0 σ C) : tI σ (b0 + 20) 12 = nI (C 20 12) := h.2.1 20 12 rfl
theorem cf_20_13 (h : CA b0 σ C) : tI σ (b0 + 20) 13 = nI (C 20 13) := h.2.1 20 13 rfl
theorem cf_20_14 (h : CA b0 σ C) : tI σ (b0 + 20) 14 = nI (C 20 14) := h.2.1 20 14 rfl
theorem cf_20_15 (h : CA b0 σ C) : tI σ (b0 + 20) 15 = nI (C 20 15) := h.2.1 20 15 rfl
theorem cf_20_16 (h : CA b0 σ C) : tI σ (b0 + 20) 16 = nI (C 20 16) := h.2.1 20 16 rfl
theorem cf_20_17 (h : CA b0 σ C) : tI σ (b0 + 20) 17 = nI (C 20 17) := h.2.1 20 17 rfl
theorem cb_20 (h : CA b0 σ C) (j : Nat) : C 20 j < 2147483648 := h.2.2.2 20 j
theorem cf_24_2 (h : CA b0 σ C) : tI σ (b0 + 24) 2 = nI (C 24 2) := h.2.1 24 2 rfl
theorem cf_24_3 (h : CA b0 σ C) : tI σ (b0 + 24) 3 = nI (C 24 3) := h.2.1 24 3 rfl
theorem cf_24_4 (h : CA b0 σ C) : tI σ (b0 + 24) 4 = nI (C 24 4) := h.2.1 24 4 rfl
theorem cb_24 (h : CA b0 σ C) (j : Nat) : C 24 j < 2147483648 := h.2.2.2 24 j
theorem cf_26_1 (h : CA b0 σ C) : tI σ (b0 + 26) 1 = nI (C 26 1) := h.2.1 26 1 rfl
theorem cb_26 (h : CA b0 σ C) (j : Nat) : C 26 j < 2147483648 := h.2.2.2 26 j
theorem cf_28_1 (h : CA b0 σ C) : tI σ (b0 + 28) 1 = nI (C 28 1) := h.2.1 28 1 rfl
theorem cf_28_2 (h : CA b0 σ C) : tI σ (b0 + 28) 2 = nI (C 28 2) := h.2.1 28 2 rfl
theorem cf_28_3 (h : CA b0 σ C) : tI σ (b0 + 28) 3 = nI (C 28 3) := h.2.1 28 3 rfl
theorem cf_28_4 (h : CA b0 σ C) : tI σ (b0 + 28) 4 = nI (C 28 4) - 16 := h.2.1 28 4 rfl
theorem cb_28 (h : CA b0 σ C) (j : Nat) : C 28 j < 2147483648 := h.2.2.2 28 j
theorem cf_30_1 (h : CA b0 σ C) : tI σ (b0 + 30) 1 = nI (C 30 1) := h.2.1 30 1 rfl
theorem cf_30_2 (h : CA b0 σ C) : tI σ (b0 + 30) 2 = nI (C 30 2) := h.2.1 30 2 rfl
theorem cf_30_3 (h : CA b0 σ C) : tI σ (b0 + 30) 3 = nI (C 30 3) := h.2.1 30 3 rfl
theorem cf_30_4 (h : CA b0 σ C) : tI σ (b0 + 30) 4 = nI (C 30 4) - 16 := h.2.1 30 4 rfl
theorem cb_30 (h : CA b0 σ C) (j : Nat) : C 30 j < 2147483648 := h.2.2.2 30 j
theorem okC_up {o j x : Nat} (h : okC C) (hx : x < bndC o) : okC (up2 C o j x) := by
  intro p q
  unfold up2
  split
  · rename_i e
    subst e
    split
    · exact Nat.lt_of_lt_of_le hx (bndD_le _ _)
    · exact h _ _
  · exact h _ _
theorem CA_up {o j x : Nat} {v : Int32} (h : CA b0 σ C) (ho : o ≠ 11) (hv : v = decC o j x) (hx : x < bndC o) : CA b0 (sI σ (b0 + o) j v) (up2 C o j x) := by
  refine ⟨h.1, fun p q e => ?_, fun q => ?_, okC_up h.2.2.2 hx⟩
  · rw [rd_II]
    by_cases hp : p = o
    · subst hp
      rw [if_pos rfl]
      by_cases hq : q = j
      · subst hq
        rw [if_pos rfl, up2_s, hv]
      · rw [if_neg hq, up2_j hq, h.2.1 p q e]
    · rw [if_neg (by omega), up2_o hp, h.2.1 p q e]
  · rw [up2_o (fun e => ho e.symm)]
    exact h.2.2.1 q
theorem CA_upL {j x : Nat} (h : CA b0 σ C) (hx : x < 18446744073709551616) : CA b0 (sL σ (b0 + 11) j (lN x)) (up2 C 11 j x) := by
  refine ⟨h.1, fun p q e => ?_, fun q => ?_, okC_up h.2.2.2 hx⟩
  · have hp : p ≠ 11 := fun r => by subst r; cases e
    rw [up2_o hp]
    exact h.2.1 p q e
  · rw [rd_LL, if_pos rfl]
    by_cases hq : q = j
    · subst hq
      rw [if_pos rfl, up2_s]
    · rw [if_neg hq, up2_j hq, h.2.2.1 q]
theorem isC_lt {o j : Nat} (h : isC o j = true) : o < 33 := by
  unfold isC at h
  split at h <;> first | omega | cases h
/-- a memory that has the same fixed cells -/
theorem CA_same (h : CA b0 σ C) (hL : LayC b0 τ) (hI : ∀ o, o < 33 → tI τ (b0 + o) = tI σ (b0 + o)) (hW : tL τ (b0 + 11) = tL σ (b0 + 11)) : CA b0 τ C := ⟨hL, fun o j e => by rw [hI o (isC_lt e)]; exact h.2.1 o j e, fun j => by rw [hW]; exact h.2.2.1 j, h.2.2.2⟩
end CAS
