/-! ===== PURE: what is read behind a write ===== -/
theorem rd_II (σ : tM) (a j x y : Nat) (v : Int32) : tI (sI σ a j v) x y = if x = a then (if y = j then v else tI σ x y) else tI σ x y := rfl
theorem rd_LL (σ : tM) (a j x y : Nat) (v : Int64) : tL (sL σ a j v) x y = if x = a then (if y = j then v else tL σ x y) else tL σ x y := rfl
theorem rd_AA (σ : tM) (a j x y : Nat) (v : Option Nat) : tA (sA σ a j v) x y = if x = a then (if y = j then v else tA σ x y) else tA σ x y := rfl
theorem rd_IIs (σ : tM) (a j : Nat) (v : Int32) : tI (sI σ a j v) a j = v := by rw [rd_II, if_pos rfl, if_pos rfl]
theorem rd_IIa {σ : tM} {a j x y : Nat} {v : Int32} (h : x ≠ a) : tI (sI σ a j v) x y = tI σ x y := by rw [rd_II, if_neg h]
theorem rd_IIj {σ : tM} {a j x y : Nat} {v : Int32} (h : y ≠ j) : tI (sI σ a j v) x y = tI σ x y := by rw [rd_II, if_neg h]; split <;> rfl
theorem rd_LLs (σ : tM) (a j : Nat) (v : Int64) : tL (sL σ a j v) a j = v := by rw [rd_LL, if_pos rfl, if_pos rfl]
theorem rd_LLa {σ : tM} {a j x y : Nat} {v : Int64} (h : x ≠ a) : tL (sL σ a j v) x y = tL σ x y := by rw [rd_LL, if_neg h]
theorem rd_LLj {σ : tM} {a j x y : Nat} {v : Int64} (h : y ≠ j) : tL (sL σ a j v) x y = tL σ x y := by rw [rd_LL, if_neg h]; split <;> rfl
theorem rd_AAs (σ : tM) (a j : Nat) (v : Option Nat) : tA (sA σ a j v) a j = v := by rw [rd_AA, if_pos rfl, if_pos rfl]
theorem rd_AAa {σ : tM} {a j x y : Nat} {v : Option Nat} (h : x ≠ a) : tA (sA σ a j v) x y = tA σ x y := by rw [rd_AA, if_neg h]
theorem rd_AAj {σ : tM} {a j x y : Nat} {v : Option Nat} (h : y ≠ j) : tA (sA σ a j v) x y = tA σ x y := by rw [rd_AA, if_neg h]; split <;> rfl
theorem rd_IL (σ : tM) (a j : Nat) (v : Int64) : tI (sL σ a j v) = tI σ := rfl
theorem rd_IA (σ : tM) (a j : Nat) (v : Option Nat) : tI (sA σ a j v) = tI σ := rfl
theorem rd_LI (σ : tM) (a j : Nat) (v : Int32) : tL (sI σ a j v) = tL σ := rfl
theorem rd_LA (σ : tM) (a j : Nat) (v : Option Nat) : tL (sA σ a j v) = tL σ := rfl
theorem rd_AI (σ : tM) (a j : Nat) (v : Int32) : tA (sI σ a j v) = tA σ := rfl
theorem rd_AL (σ : tM) (a j : Nat) (v : Int64) : tA (sL σ a j v) = tA σ := rfl
theorem rd_kI (σ : tM) (a j : Nat) (v : Int32) : tk (sI σ a j v) = tk σ := rfl
theorem rd_kL (σ : tM) (a j : Nat) (v : Int64) : tk (sL σ a j v) = tk σ := rfl
theorem rd_kA (σ : tM) (a j : Nat) (v : Option Nat) : tk (sA σ a j v) = tk σ := rfl
theorem rd_nI (σ : tM) (a j : Nat) (v : Int32) : tn (sI σ a j v) = tn σ := rfl
theorem rd_nL (σ : tM) (a j : Nat) (v : Int64) : tn (sL σ a j v) = tn σ := rfl
theorem rd_nA (σ : tM) (a j : Nat) (v : Option Nat) : tn (sA σ a j v) = tn σ := rfl
theorem rd_nN (σ : tM) (a : Nat) (k : Nat ⊕ (Nat × Nat)) (n : Nat) : tn (sN σ a k n) = tn σ + 1 := rfl
theorem rd_uN (σ : tM) (a : Nat) (k : Nat ⊕ (Nat × Nat)) (n : Nat) : tu (sN σ a k n) = tu σ + n := rfl
/-- the checks, where they pass -/
theorem ckO_p {β : Type} {b0 : Nat} {σ : tM} {a ci : Nat} {k : Option β} (h : tk σ a = .inl ci) (hi : tIn b0 σ a) : ckO b0 σ a ci k = k := if_pos ⟨h, hi⟩
theorem ckR_p {β : Type} {b0 : Nat} {σ : tM} {a t n : Nat} {k : Nat → Option β} (h : tk σ a = .inr (t, n)) (hi : tIn b0 σ a) : ckR b0 σ a t k = k n := by
  unfold ckR
  rw [h]
  exact if_pos ⟨rfl, hi⟩
theorem ckI_p {β : Type} {i : Int32} {n : Nat} {k : Option β} (h : ¬ i < 0) (h2 : i.toNatClampNeg < n) : ckI i n k = k := if_pos ⟨h, h2⟩
theorem ckD_p {β : Type} {y : Int32} {k : Option β} (h : ¬ y = 0) : ckD y k = k := if_neg h
theorem osm_p {β : Type} {o : Option Nat} {x : Nat} {k : Nat → Option β} (h : o = some x) : osm o k = k x := by rw [h]; rfl
theorem omt_s {β : Type} {o : Option Nat} {x : Nat} {k : Nat → Option β} {k0 : Option β} (h : o = some x) : omt o k k0 = k x := by rw [h]; rfl
theorem omt_n {β : Type} {o : Option Nat} {k : Nat → Option β} {k0 : Option β} (h : o = none) : omt o k k0 = k0 := by rw [h]; rfl
theorem cll_p {α β : Type} {x : Option (α × tM)} {v : α} {ρ : tM} {k : α → tM → Option β} (h : x = some (v, ρ)) : cll x k = k v ρ := by rw [h]; rfl
theorem clx_l {α β : Type} {x : Option ((α ⊕ Unit) × tM)} {v : α} {ρ : tM} {k : α → tM → Option ((β ⊕ Unit) × tM)} (h : x = some (.inl v, ρ)) : clx x k = k v ρ := by rw [h]; rfl
theorem clx_r {α β : Type} {x : Option ((α ⊕ Unit) × tM)} {ρ : tM} {k : α → tM → Option ((β ⊕ Unit) × tM)} (h : x = some (.inr (), ρ)) : clx x k = some (.inr (), ρ) := by rw [h]; rfl
theorem grw_p {α : Type} {σ τ : tM} {x : Option (α × tM)} {v : α} (h : x = some (v, τ)) (h1 : tn σ ≤ tn τ) (h2 : tu σ ≤ tu τ) : grw σ x = some (v, τ) := by
  rw [h]
  exact if_pos ⟨h1, h2⟩
