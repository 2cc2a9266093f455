/-! ===== PURE: the reference's growing arrays, its frame ===== -/
theorem rd_kN (σ : tM) (a : Nat) (k : Nat ⊕ (Nat × Nat)) (n x : Nat) : tk (sN σ a k n) x = if x = a then k else tk σ x := rfl
theorem rd_IN (σ : tM) (a : Nat) (k : Nat ⊕ (Nat × Nat)) (n x : Nat) : tI (sN σ a k n) x = if x = a then (fun _ => 0) else tI σ x := rfl
theorem rd_LN (σ : tM) (a : Nat) (k : Nat ⊕ (Nat × Nat)) (n x : Nat) : tL (sN σ a k n) x = if x = a then (fun _ => 0) else tL σ x := rfl
theorem rd_AN (σ : tM) (a : Nat) (k : Nat ⊕ (Nat × Nat)) (n x : Nat) : tA (sN σ a k n) x = if x = a then (fun _ => none) else tA σ x := rfl
theorem rd_Ir (σ : tM) (a : Nat) (f : Nat → Int32) (x : Nat) : tI (sIr σ a f) x = if x = a then f else tI σ x := rfl
theorem rd_I1 (σ : tM) (a j : Nat) (v : Int32) {x : Nat} (h : x ≠ a) : tI (sI σ a j v) x = tI σ x := by funext y; exact rd_IIa h
theorem rd_A1 (σ : tM) (a j : Nat) (v : Option Nat) {x : Nat} (h : x ≠ a) : tA (sA σ a j v) x = tA σ x := by funext y; exact rd_AAa h
theorem rd_L1 (σ : tM) (a j : Nat) (v : Int64) {x : Nat} (h : x ≠ a) : tL (sL σ a j v) x = tL σ x := by funext y; exact rd_LLa h
/-- a cell is as it was -/
def same (σ τ : tM) (a : Nat) : Prop := tk τ a = tk σ a ∧ tI τ a = tI σ a ∧ tL τ a = tL σ a ∧ tA τ a = tA σ a
theorem same_r (σ : tM) (a : Nat) : same σ σ a := ⟨rfl, rfl, rfl, rfl⟩
theorem same_t {σ τ ρ : tM} {a : Nat} (h : same σ τ a) (k : same τ ρ a) : same σ ρ a := ⟨k.1.trans h.1, k.2.1.trans h.2.1, k.2.2.1.trans h.2.2.1, k.2.2.2.trans h.2.2.2⟩
theorem same_sI {σ : tM} {a j x : Nat} {v : Int32} (h : x ≠ a) : same σ (sI σ a j v) x := ⟨rfl, rd_I1 σ a j v h, rfl, rfl⟩
theorem same_sL {σ : tM} {a j x : Nat} {v : Int64} (h : x ≠ a) : same σ (sL σ a j v) x := ⟨rfl, rfl, rd_L1 σ a j v h, rfl⟩
theorem same_sA {σ : tM} {a j x : Nat} {v : Option Nat} (h : x ≠ a) : same σ (sA σ a j v) x := ⟨rfl, rfl, rfl, rd_A1 σ a j v h⟩
theorem same_sIr {σ : tM} {a x : Nat} {f : Nat → Int32} (h : x ≠ a) : same σ (sIr σ a f) x := ⟨rfl, by rw [rd_Ir, if_neg h], rfl, rfl⟩
theorem same_sN {σ : tM} {a n x : Nat} {k : Nat ⊕ (Nat × Nat)} (h : x ≠ a) : same σ (sN σ a k n) x := ⟨by rw [rd_kN, if_neg h], by rw [rd_IN, if_neg h], by rw [rd_LN, if_neg h], by rw [rd_AN, if_neg h]⟩
/-- the fields of the arrays that grow -/
def isD (f : Nat) : Bool := f == 2 || f == 3 || (decide (37 ≤ f) && decide (f ≤ 44))
def inD (f : Nat) : Nat := if f < 4 then f + 35 else f + 16
def cntD (un nr nl f : Nat) : Nat := if f < 4 then un else if f < 44 then nr else nl
theorem isD_of {f : Nat} (h : isD f = true) : f = 2 ∨ f = 3 ∨ (37 ≤ f ∧ f ≤ 44) := by
  simp [isD] at h; omega
def refO (b0 : Nat) (σ : tM) (a : Nat) : Prop := (b0 + 35 ≤ a ∧ a ≤ b0 + 72) ∨ ∃ f, isD f = true ∧ tA σ (b0 + 35) f = some a
def lenD (b0 : Nat) (σ : tM) (f : Nat) : Nat := match tA σ (b0 + 35) f with
  | some a => (match tk σ a with | .inr q => q.2 | .inl _ => 0)
  | none => 0
def psi (b0 : Nat) (σ : tM) : Nat := 2 * (lenD b0 σ 2 + lenD b0 σ 3 + lenD b0 σ 37 + lenD b0 σ 38 + lenD b0 σ 39 + lenD b0 σ 40 + lenD b0 σ 41 + lenD b0 σ 42 + lenD b0 σ 43 + lenD b0 σ 44)
def FR (b0 : Nat) (σ τ : tM) : Prop := tn σ ≤ tn τ ∧ tu σ ≤ tu τ ∧ 64 * tn τ + tu σ ≤ 64 * tn σ + tu τ ∧ tu τ + psi b0 σ = tu σ + psi b0 τ ∧ (∀ a, a < b0 + tn σ → ¬ refO b0 σ a → same σ τ a) ∧ (∀ a, refO b0 τ a → refO b0 σ a ∨ b0 + tn σ ≤ a)
theorem FR_good (b0 : Nat) : goodF (FR b0) := by
  refine ⟨fun σ => ⟨Nat.le_refl _, Nat.le_refl _, Nat.le_refl _, rfl, fun a _ _ => same_r σ a, fun a h => Or.inl h⟩, fun σ τ ρ h k => ?_, fun σ τ h => ⟨h.1, h.2.1⟩⟩
  obtain ⟨h1, h2, h3, h4, h5, h6⟩ := h
  obtain ⟨k1, k2, k3, k4, k5, k6⟩ := k
  refine ⟨by omega, by omega, by omega, by omega, fun a ha hr => same_t (h5 a ha hr) (k5 a (by omega) fun q => ?_), fun a hr => ?_⟩
  · rcases h6 a q with q | q
    · exact hr q
    · omega
  · rcases k6 a hr with q | q
    · exact h6 a q
    · exact Or.inr (by omega)
theorem FR_sI {b0 : Nat} {σ : tM} {a j : Nat} {v : Int32} (h : refO b0 σ a) : FR b0 σ (sI σ a j v) :=
  ⟨Nat.le_refl _, Nat.le_refl _, Nat.le_refl _, rfl, fun x _ hr => same_sI (fun e => hr (e ▸ h)), fun x hr => Or.inl hr⟩
theorem FR_sIr {b0 : Nat} {σ : tM} {a : Nat} {f : Nat → Int32} (h : refO b0 σ a) : FR b0 σ (sIr σ a f) :=
  ⟨Nat.le_refl _, Nat.le_refl _, Nat.le_refl _, rfl, fun x _ hr => same_sIr (fun e => hr (e ▸ h)), fun x hr => Or.inl hr⟩
/-- a fixed cell of the reference -/
theorem refO_f {b0 : Nat} {σ : tM} (o : Nat) (h1 : 35 ≤ o) (h2 : o ≤ 72) : refO b0 σ (b0 + o) := Or.inl ⟨by omega, by omega⟩
theorem refO_d {b0 : Nat} {σ : tM} {a : Nat} (f : Nat) (h1 : isD f = true) (h2 : tA σ (b0 + 35) f = some a) : refO b0 σ a := Or.inr ⟨f, h1, h2⟩
def RD0 (b0 : Nat) (σ : tM) (ad ln : Nat → Nat) (B : Nat → Nat → Nat) (c : Nat → Nat) (un ns nl : Nat) : Prop :=
  (∀ f, isD f = true → tA σ (b0 + 35) f = some (ad f) ∧ tk σ (ad f) = .inr (0, ln f) ∧ ad f < b0 + tn σ ∧ (b0 + 74 ≤ ad f ∨ ad f = b0 + inD f) ∧ c f ≤ ln f ∧ ln f ≤ 524288 ∧ 32 ≤ ln f ∧ (∀ i, i < c f → tI σ (ad f) i = nI (B f i) ∧ B f i < 2147483648)) ∧
  (∀ f g, isD f = true → isD g = true → ad f = ad g → f = g) ∧
  (tI σ (b0 + 35) 4 = nI un ∧ tI σ (b0 + 35) 36 = nI ns ∧ tI σ (b0 + 35) 45 = nI nl) ∧
  ((tA σ (b0 + 35) 49 = some (b0 + 65) ∧ tA σ (b0 + 35) 50 = some (b0 + 66)) ∨ (tA σ (b0 + 35) 49 = some (b0 + 66) ∧ tA σ (b0 + 35) 50 = some (b0 + 65)))
/-- an array that grows is none of the fixed cells -/
theorem RD0.ne {b0 : Nat} {σ : tM} {ad ln : Nat → Nat} {B : Nat → Nat → Nat} {c : Nat → Nat} {un ns nl : Nat} (h : RD0 b0 σ ad ln B c un ns nl) {f o : Nat} (hf : isD f = true) (ho : isA o 0 = true ∨ o = 35) : ad f ≠ b0 + o := by
  obtain ⟨-, -, -, h4, -⟩ := h.1 f hf
  have hl : o < 73 := by
    rcases ho with e | e
    · exact isA_lt e
    · omega
  intro e
  rcases h4 with q | q
  · omega
  · have e2 : o = inD f := by omega
    rcases isD_of hf with rfl | rfl | ⟨q1, q2⟩
    · subst e2; rcases ho with e | e <;> cases e
    · subst e2; rcases ho with e | e <;> cases e
    · have : inD f = f + 16 := by unfold inD; rw [if_neg (by omega)]
      rw [this] at e2
      have : o = 53 ∨ o = 54 ∨ o = 55 ∨ o = 56 ∨ o = 57 ∨ o = 58 ∨ o = 59 ∨ o = 60 := by omega
      rcases this with rfl | rfl | rfl | rfl | rfl | rfl | rfl | rfl <;> (rcases ho with e | e <;> cases e)
