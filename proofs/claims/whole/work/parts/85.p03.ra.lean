/-! ===== PURE: what the reference holds in its fixed cells, as one function of cell and place (written by wip/gen/gen_ra.py) ===== -/
def up2 (A : Nat → Nat → Nat) (o j x : Nat) : Nat → Nat → Nat := fun p q => if p = o then (if q = j then x else A p q) else A p q
/-- a byte of 0 .. 255 as the int that Java has of it -/
def sb (x : Nat) : Int32 := (nI x).toInt8.toInt32
def isA (o j : Nat) : Bool := match o with
  | 35 => j == 0 || j == 6 || j == 7 || j == 15 || j == 16 || j == 18 || j == 19 || j == 20 || j == 21 || j == 28 || j == 29 || j == 30 || j == 31 || j == 32 || j == 33 || j == 34 || j == 35 || j == 46 || j == 51 || j == 53 || j == 57
  | 36 => true
  | 39 => true
  | 40 => true
  | 41 => true
  | 42 => true
  | 43 => true
  | 44 => true
  | 45 => true
  | 46 => true
  | 47 => true
  | 48 => true
  | 49 => true
  | 50 => true
  | 51 => true
  | 52 => true
  | 62 => true
  | 63 => true
  | 64 => true
  | 67 => true
  | 68 => true
  | 69 => true
  | 70 => true
  | 71 => true
  | 72 => true
  | _ => false
def decA (o j x : Nat) : Int32 := match o with
  | 35 => if j = 19 then nI x - 1 else nI x
  | 41 => sb x
  | 45 => sb x
  | 47 => sb x
  | 62 => sb x
  | 63 => sb x
  | 67 => sb x
  | 70 => sb x
  | 71 => nI x - 1
  | _ => nI x
def bndA (o : Nat) : Nat := match o with
  | 41 => 256
  | 45 => 256
  | 47 => 256
  | 62 => 256
  | 63 => 256
  | 67 => 256
  | 70 => 256
  | 48 => 2
  | 50 => 2
  | 51 => 2
  | 52 => 2
  | 72 => 2
  | _ => 2147483648
/-- cutLeft + 1 may be one more than the others -/
def bndB (o j : Nat) : Nat := match o with
  | 35 => (if j = 19 then 2147483649 else 2147483648)
  | o => bndA o
theorem bndB_le (o j : Nat) : bndA o ≤ bndB o j := by
  unfold bndB
  split
  · split
    · show 2147483648 ≤ 2147483649; omega
    · exact Nat.le_refl _
  · exact Nat.le_refl _
def okA (A : Nat → Nat → Nat) : Prop := ∀ o j, A o j < bndB o j
def RA (b0 : Nat) (σ : tM) (A : Nat → Nat → Nat) : Prop := LayR b0 σ ∧ (∀ o j, isA o j = true → tI σ (b0 + o) j = decA o j (A o j)) ∧ okA A
section RAS
variable {b0 : Nat} {σ τ : tM} {A : Nat → Nat → Nat}
theorem RA.lay (h : RA b0 σ A) : LayR b0 σ := h.1
theorem rd_36 (h : RA b0 σ A) (j : Nat) : tI σ (b0 + 36) j = nI (A 36 j) := h.2.1 36 j rfl
theorem bd_36 (h : RA b0 σ A) (j : Nat) : A 36 j < 2147483648 := h.2.2 36 j
theorem rd_39 (h : RA b0 σ A) (j : Nat) : tI σ (b0 + 39) j = nI (A 39 j) := h.2.1 39 j rfl
theorem bd_39 (h : RA b0 σ A) (j : Nat) : A 39 j < 2147483648 := h.2.2 39 j
theorem rd_40 (h : RA b0 σ A) (j : Nat) : tI σ (b0 + 40) j = nI (A 40 j) := h.2.1 40 j rfl
theorem bd_40 (h : RA b0 σ A) (j : Nat) : A 40 j < 2147483648 := h.2.2 40 j
theorem rd_41 (h : RA b0 σ A) (j : Nat) : tI σ (b0 + 41) j = sb (A 41 j) := h.2.1 41 j rfl
theorem bd_41 (h : RA b0 σ A) (j : Nat) : A 41 j < 256 := h.2.2 41 j
theorem rd_42 (h : RA b0 σ A) (j : Nat) : tI σ (b0 + 42) j = nI (A 42 j) := h.2.1 42 j rfl
theorem bd_42 (h : RA b0 σ A) (j : Nat) : A 42 j < 2147483648 := h.2.2 42 j
theorem rd_43 (h : RA b0 σ A) (j : Nat) : tI σ (b0 + 43) j = nI (A 43 j) := h.2.1 43 j rfl
theorem bd_43 (h : RA b0 σ A) (j : Nat) : A 43 j < 2147483648 := h.2.2 43 j
theorem rd_44 (h : RA b0 σ A) (j : Nat) : tI σ (b0 + 44) j = nI (A 44 j) := h.2.1 44 j rfl
theorem bd_44 (h : RA b0 σ A) (j : Nat) : A 44 j < 2147483648 := h.2.2 44 j
theorem rd_45 (h : RA b0 σ A) (j : Nat) : tI σ (b0 + 45) j = sb (A 45 j) := h.2.1 45 j rfl
theorem bd_45 (h : RA b0 σ A) (j : Nat) : A 45 j < 256 := h.2.2 45 j
theorem rd_46 (h : RA b0 σ A) (j : Nat) : tI σ (b0 + 46) j = nI (A 46 j) := h.2.1 46 j rfl
theorem bd_46 (h : RA b0 σ A) (j : Nat) : A 46 j < 2147483648 := h.2.2 46 j
theorem rd_47 (h : RA b0 σ A) (j : Nat) : tI σ (b0 + 47) j = sb (A 47 j) := h.2.1 47 j rfl
theorem bd_47 (h : RA b0 σ A) (j : Nat) : A 47 j < 256 := h.2.2 47 j
theorem rd_48 (h : RA b0 σ A) (j : Nat) : tI σ (b0 + 48) j = nI (A 48 j) := h.2.1 48 j rfl
theorem bd_48 (h : RA b0 σ A) (j : Nat) : A 48 j < 2 := h.2.2 48 j
theorem rd_49 (h : RA b0 σ A) (j : Nat) : tI σ (b0 + 49) j = nI (A 49 j) := h.2.1 49 j rfl
theorem bd_49 (h : RA b0 σ A) (j : Nat) : A 49 j < 2147483648 := h.2.2 49 j
theorem rd_50 (h : RA b0 σ A) (j : Nat) : tI σ (b0 + 50) j = nI (A 50 j) := h.2.1 50 j rfl
theorem bd_50 (h : RA b0 σ A) (j : Nat) : A 50 j < 2 := h.2.2 50 j
theorem rd_51 (h : RA b0 σ A) (j : Nat) : tI σ (b0 + 51) j = nI (A 51 j) := h.2.1 51 j rfl
theorem bd_51 (h : RA b0 σ A) (j : Nat) : A 51 j < 2 := h.2.2 51 j
theorem rd_52 (h : RA b0 σ A) (j : Nat) : tI σ (b0 + 52) j = nI (A 52 j) := h.2.1 52 j rfl
theorem bd_52 (h : RA b0 σ A) (j : Nat) : A 52 j < 2 := h.2.2 52 j
theorem rd_62 (h : RA b0 σ A) (j : Nat) : tI σ (b0 + 62) j = sb (A 62 j) := h.2.1 62 j rfl
theorem bd_62 (h : RA b0 σ A) (j : Nat) : A 62 j < 256 := h.2.2 62 j
theorem rd_63 (h : RA b0 σ A) (j : Nat) : tI σ (b0 + 63) j = sb (A 63 j) := h.2.1 63 j rfl
theorem bd_63 (h : RA b0 σ A) (j : Nat) : A 63 j < 256 := h.2.2 63 j
theorem rd_64 (h : RA b0 σ A) (j : Nat) : tI σ (b0 + 64) j = nI (A 64 j) := h.2.1 64 j rfl
theorem bd_64 (h : RA b0 σ A) (j : Nat) : A 64 j < 2147483648 := h.2.2 64 j
theorem rd_67 (h : RA b0 σ A) (j : Nat) : tI σ (b0 + 67) j = sb (A 67 j) := h.2.1 67 j rfl
theorem bd_67 (h : RA b0 σ A) (j : Nat) : A 67 j < 256 := h.2.2 67 j
theorem rd_68 (h : RA b0 σ A) (j : Nat) : tI σ (b0 + 68) j = nI (A 68 j) := h.2.1 68 j rfl
theorem bd_68 (h : RA b0 σ A) (j : Nat) : A 68 j < 2147483648 := h.2.2 68 j
theorem rd_69 (h : RA b0 σ A) (j : Nat) : tI σ (b0 + 69) j = nI (A 69 j) := h.2.1 69 j rfl
theorem bd_69 (h : RA b0 σ A) (j : Nat) : A 69 j < 2147483648 := h.2.2 69 j
theorem rd_70 (h : RA b0 σ A) (j : Nat) : tI σ (b0 + 70) j = sb (A 70 j) := h.2.1 70 j rfl
theorem bd_70 (h : RA b0 σ A) (j : Nat) : A 70 j < 256 := h.2.2 70 j
theorem rd_71 (h : RA b0 σ A) (j : Nat) : tI σ (b0 + 71) j = nI (A 71 j) - 1 := h.2.1 71 j rfl
theorem bd_71 (h : RA b0 σ A) (j : Nat) : A 71 j < 2147483648 := h.2.2 71 j
theorem rd_72 (h : RA b0 σ A) (j : Nat) : tI σ (b0 + 72) j = nI (A 72 j) := h.2.1 72 j rfl
theorem bd_72 (h : RA b0 σ A) (j : Nat) : A 72 j < 2 := h.2.2 72 j
theorem rf_0 (h : RA b0 σ A) : tI σ (b0 + 35) 0 = nI (A 35 0) := h.2.1 35 0 rfl
theorem rf_6 (h : RA b0 σ A) : tI σ (b0 + 35) 6 = nI (A 35 6) := h.2.1 35 6 rfl
theorem rf_7 (h : RA b0 σ A) : tI σ (b0 + 35) 7 = nI (A 35 7) := h.2.1 35 7 rfl
theorem rf_15 (h : RA b0 σ A) : tI σ (b0 + 35) 15 = nI (A 35 15) := h.2.1 35 15 rfl
theorem rf_16 (h : RA b0 σ A) : tI σ (b0 + 35) 16 = nI (A 35 16) := h.2.1 35 16 rfl
theorem rf_18 (h : RA b0 σ A) : tI σ (b0 + 35) 18 = nI (A 35 18) := h.2.1 35 18 rfl
theorem rf_19 (h : RA b0 σ A) : tI σ (b0 + 35) 19 = nI (A 35 19) - 1 := h.2.1 35 19 rfl
theorem rf_20 (h : RA b0 σ A) : tI σ (b0 + 35) 20 = nI (A 35 20) := h.2.1 35 20 rfl
theorem rf_21 (h : RA b0 σ A) : tI σ (b0 + 35) 21 = nI (A 35 21) := h.2.1 35 21 rfl
theorem rf_28 (h : RA b0 σ A) : tI σ (b0 + 35) 28 = nI (A 35 28) := h.2.1 35 28 rfl
theorem rf_29 (h : RA b0 σ A) : tI σ (b0 + 35) 29 = nI (A 35 29) := h.2.1 35 29 rfl
theorem rf_30 (h : RA b0 σ A) : tI σ (b0 + 35) 30 = nI (A 35 30) := h.2.1 35 30 rfl
theorem rf_31 (h : RA b0 σ A) : tI σ (b0 + 35) 31 = nI (A 35 31) := h.2.1 35 31 rfl
theorem rf_32 (h : RA b0 σ A) : tI σ (b0 + 35) 32 = nI (A 35 32) := h.2.1 35 32 rfl
theorem rf_33 (h : RA b0 σ A) : tI σ (b0 + 35) 33 = nI (A 35 33) := h.2.1 35 33 rfl
theorem rf_34 (h : RA b0 σ A) : tI σ (b0 + 35) 34 = nI (A 35 34) := h.2.1 35 34 rfl
theorem rf_35 (h : RA b0 σ A) : tI σ (b0 + 35) 35 = nI (A 35 35) := h.2.1 35 35 rfl
theorem rf_46 (h : RA b0 σ A) : tI σ (b0 + 35) 46 = nI (A 35 46) := h.2.1 35 46 rfl
theorem rf_51 (h : RA b0 σ A) : tI σ (b0 + 35) 51 = nI (A 35 51) := h.2.1 35 51 rfl
theorem rf_53 (h : RA b0 σ A) : tI σ (b0 + 35) 53 = nI (A 35 53) := h.2.1 35 53 rfl
theorem rf_57 (h : RA b0 σ A) : tI σ (b0 + 35) 57 = nI (A 35 57) := h.2.1 35 57 rfl
theorem bd_35 (h : RA b0 σ A) (j : Nat) (hj : j ≠ 19 := by decide) : A 35 j < 2147483648 := by
  have q : A 35 j < if j = 19 then 2147483649 else 2147483648 := h.2.2 35 j
  rw [if_neg hj] at q
  exact q
theorem bd_19 (h : RA b0 σ A) : A 35 19 < 2147483649 := h.2.2 35 19
theorem up2_s (A : Nat → Nat → Nat) (o j x : Nat) : up2 A o j x o j = x := by simp [up2]
theorem up2_o {o p j q x : Nat} (h : p ≠ o) : up2 A o j x p q = A p q := by simp [up2, h]
theorem up2_j {o p j q x : Nat} (h : q ≠ j) : up2 A o j x p q = A p q := by simp only [up2, if_neg h]; split <;> rfl
theorem okA_up {o j x : Nat} (h : okA A) (hx : x < bndA o) : okA (up2 A o j x) := by
  intro p q
  unfold up2
  split
  · rename_i e
    subst e
    split
    · exact Nat.lt_of_lt_of_le hx (bndB_le _ _)
    · exact h _ _
  · exact h _ _
theorem RA_up {o j x : Nat} {v : Int32} (h : RA b0 σ A) (hv : v = decA o j x) (hx : x < bndA o) : RA b0 (sI σ (b0 + o) j v) (up2 A o j x) := by
  refine ⟨h.1, fun p q e => ?_, okA_up h.2.2 hx⟩
  rw [rd_II]
  by_cases hp : p = o
  · subst hp
    rw [if_pos rfl]
    by_cases hq : q = j
    · subst hq
      rw [if_pos rfl, up2_s, hv]
    · rw [if_neg hq, up2_j hq, h.2.1 p q e]
  · rw [if_neg (by omega), up2_o hp, h.2.1 p q e]
theorem RA_oth {o j : Nat} {v : Int32} (h : RA b0 σ A) (ho : isA o j = false) : RA b0 (sI σ (b0 + o) j v) A := by
  refine ⟨h.1, fun p q e => ?_, h.2.2⟩
  rw [rd_II, ← h.2.1 p q e]
  split
  · split
    · rename_i h1 h2
      have : p = o := by omega
      subst this; subst h2
      rw [ho] at e
      cases e
    · rfl
  · rfl
theorem isA_lt {o j : Nat} (h : isA o j = true) : o < 73 := by
  unfold isA at h
  split at h <;> first | omega | cases h
/-- a memory that has the same fixed cells -/
theorem RA_same (h : RA b0 σ A) (hL : LayR b0 τ) (hI : ∀ o j, isA o j = true → tI τ (b0 + o) j = tI σ (b0 + o) j) : RA b0 τ A := ⟨hL, fun o j e => (hI o j e).trans (h.2.1 o j e), h.2.2⟩
end RAS
