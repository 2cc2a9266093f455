def ckZ {β : Type} (x : Int32) (k : Option β) : Option β := if x = 0 ∨ x = 1 then k else none
theorem ckZ_e {β : Type} {x : Int32} {k : Option β} {z : β} (h : ckZ x k = some z) : narrow .boolean (.int x) = .int x ∧ k = some z := by
  unfold ckZ at h
  split at h
  · rename_i hc
    refine ⟨?_, h⟩
    rcases hc with rfl | rfl <;> decide
  · cases h
def ckB {β : Type} (x : Int32) (k : Option β) : Option β := if x.toInt8.toInt32 = x then k else none
theorem ckB_e {β : Type} {x : Int32} {k : Option β} {z : β} (h : ckB x k = some z) : narrow .byte (.int x) = .int x ∧ k = some z := by
  unfold ckB at h
  split at h
  · rename_i hc
    refine ⟨?_, h⟩
    rw [← hc]
    exact pk_nb x
  · cases h
def rxV (E : String) (v : Unit ⊕ Unit) : Option Value ⊕ String := match v with | .inl _ => .inl none | .inr _ => .inr E
def rxI (E : String) (v : Int32 ⊕ Unit) : Option Value ⊕ String := match v with | .inl x => .inl (some (.int x)) | .inr _ => .inr E
def rxJ (E : String) (v : Int64 ⊕ Unit) : Option Value ⊕ String := match v with | .inl x => .inl (some (.long x)) | .inr _ => .inr E
def rxA (E : String) (v : Option Nat ⊕ Unit) : Option Value ⊕ String := match v with | .inl x => .inl (some (va_rf x)) | .inr _ => .inr E
theorem ip_e {β : Type} {c : Prop} [Decidable c] {a b : Option β} {z : β} (h : (if c then a else b) = some z) (hc : c) : a = some z := by rwa [if_pos hc] at h
theorem in_e {β : Type} {c : Prop} [Decidable c] {a b : Option β} {z : β} (h : (if c then a else b) = some z) (hc : ¬ c) : b = some z := by rwa [if_neg hc] at h
