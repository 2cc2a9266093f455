/-! ===== PURE: the tree's own form between calls ===== -/
/-- the node that an entry leads to; 64 without -/
def ev (A : tS) (d k : Nat) : Nat := if d < 64 ∧ nd A d 0 = 2 ∧ k < eAll A d then eN A d k else 64
def NF (A : tS) : Prop := NFa (fun n => nd A n 0) (fun n => nd A n 3) (fun n => nd A n 2) (ev A)
/-- sizes of directories: bounded; the last block is not bare -/
def SF (t : Nat) (A : tS) : Prop := ∀ d, d < 64 → nd A d 0 = 2 → nd A d 1 ≤ 256 * t ∧ (0 < nd A d 1 → ∃ k, eAll A d ≤ k + 8 ∧ ev A d k ≠ 64)
def PH (t : Nat) (w : Nat → Nat × Nat) (A : tS) : Prop := okT A ∧ TI w A ∧ TF A ∧ DI w A ∧ NF A ∧ SF t A
section PHI
variable {bi : Nat → Nat} {w w' : Nat → Nat × Nat} {C C' A B : tS} {t t' n m k d : Nat}
theorem PH_good (t : Nat) : goodT (PH t) := by
  intro w A B h36 h7 h
  unfold PH okT TI TF DI NF SF ev eAll eN eL ex slo hasA leafA us nd pt eZ at h ⊢
  rw [h36, h7]
  exact h
theorem PH_ok : ∀ w A, PH t w A → okT A := fun _ _ h => h.1
theorem PH_ti : ∀ w A, PH t w A → TI w A := fun _ _ h => h.2.1
theorem PH_mono (h : PH t w A) (ht : t ≤ t') : PH t' w A := by
  obtain ⟨h1, h2, h3, h4, h5, h6⟩ := h
  exact ⟨h1, h2, h3, h4, h5, fun d hd k => ⟨by have := (h6 d hd k).1; omega, (h6 d hd k).2⟩⟩
/-- no table is empty, told by its words -/
theorem di5 (hT : TI w A) (hF : TF A) : ∀ r, r < 2000 → us A r → 2000 ≤ (w r).2 → ∃ k, k < 32 ∧ pt A r k ≠ 0 := by
  intro r hr hu h2
  obtain ⟨-, a1, -, a2, a3⟩ := hT.1 r hr hu
  obtain ⟨k, hk, q⟩ := hF (w r).1 (w r).2 a1 a2 h2 (by rw [a3]; omega)
  rw [pt_slo hT hr hu h2 hk] at q
  exact ⟨k, hk, q⟩
/-- the same entries where the blocks and their entries are the same -/
theorem ev_eq (hd : d < 64) (hz : nd B d 0 = nd A d 0 ∧ nd B d 1 = nd A d 1) (hh : nd A d 0 = 2 → ∀ i, i < nd A d 1 / 256 → hasA B d i = hasA A d i ∧ hasA A d i ≠ 0) (he : ∀ r k, r < 2000 → k < 8 → eZ B r k 0 = eZ A r k 0) (ho : okT A) (hb : nd A d 1 ≤ 272384) : ∀ k, ev B d k = ev A d k := by
  intro k
  unfold ev eAll
  rw [hz.1, hz.2]
  by_cases c : d < 64 ∧ nd A d 0 = 2 ∧ k < nd A d 1 / 256 * 8
  · rw [if_pos c, if_pos c]
    obtain ⟨h1, h2⟩ := hh c.2.1 (k / 8) (by omega)
    have l := has_le ho hd (i := k / 8) (by omega)
    have e := he (hasA A d (k / 8) - 1) (k % 8) (by omega) (by omega)
    unfold eN ex
    rw [h1]
    unfold eZ at e
    exact e
  · rw [if_neg c, if_neg c]
/-- what the form says of directories and files -/
theorem PH.di (h : PH t w A) : DI w A := h.2.2.2.1
theorem PH.tf (h : PH t w A) : TF A := h.2.2.1
theorem PH.nf (h : PH t w A) : NF A := h.2.2.2.2.1
theorem PH.sf (h : PH t w A) : SF t A := h.2.2.2.2.2
theorem PH.root (h : PH t w A) : nd A 0 0 = 2 := h.nf.1.1
theorem PH.file (h : PH t w A) {n : Nat} (hn : n < 64) (hk : nd A n 0 = 1) : ∀ i, i < 1064 → nd A n 1 ≤ 256 * i → hasA A n i = 0 := fun i hi hs => h.di.2.2.2.1 n hn (Or.inl hk) i hi hs
/-- an entry as the walk finds it -/
theorem ev_at (hd : d < 64) (h2 : nd A d 0 = 2) (hk : k < eAll A d) : ev A d k = eN A d k := by
  unfold ev
  rw [if_pos ⟨hd, h2, hk⟩]
theorem ev_lt (h : ev A d k ≠ 64) : d < 64 ∧ nd A d 0 = 2 ∧ k < eAll A d ∧ ev A d k = eN A d k := by
  unfold ev at h ⊢
  by_cases c : d < 64 ∧ nd A d 0 = 2 ∧ k < eAll A d
  · rw [if_pos c]
    exact ⟨c.1, c.2.1, c.2.2, rfl⟩
  · rw [if_neg c] at h
    exact absurd rfl h
/-- a directory that has a size has an entry -/
theorem dir_empty (h : PH t w A) (hd : d < 64) (h2 : nd A d 0 = 2) : nd A d 1 = 0 ↔ ∀ k, ev A d k = 64 := by
  constructor
  · intro z k
    refine Classical.byContradiction (fun q => ?_)
    have := (ev_lt q).2.2.1
    unfold eAll at this
    rw [z] at this
    omega
  · intro z
    refine Classical.byContradiction (fun q => ?_)
    obtain ⟨k, -, hk⟩ := (h.sf d hd h2).2 (by omega)
    exact hk (z k)
end PHI
