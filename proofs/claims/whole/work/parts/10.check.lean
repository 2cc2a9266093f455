/-! ===== WORDS OF THE METHODS' FUNCTIONS: each use of a cell, a place, a divisor is looked at; none where it fails ===== -/
def ltb {α β : Type} (e : α) (f : α → β) : β := f e
theorem ltb_e {α β : Type} {e y : α} {f : α → β} {z : β} (h : ltb e f = z) (hy : y = e) : f y = z := by subst hy; exact h
def ckO {β : Type} (b0 : Nat) (σ : tM) (a ci : Nat) (k : Option β) : Option β := if tk σ a = .inl ci ∧ b0 ≤ a ∧ a < b0 + tn σ then k else none
theorem ckO_e {β : Type} {b0 : Nat} {σ : tM} {a ci : Nat} {k : Option β} {z : β} (h : ckO b0 σ a ci k = some z) : tk σ a = .inl ci ∧ tIn b0 σ a ∧ k = some z := by
  unfold ckO at h
  split at h
  · rename_i hc; exact ⟨hc.1, hc.2, h⟩
  · cases h
def ckR {β : Type} (b0 : Nat) (σ : tM) (a t : Nat) (k : Nat → Option β) : Option β := match tk σ a with
  | .inr q => if q.1 = t ∧ b0 ≤ a ∧ a < b0 + tn σ then k q.2 else none
  | .inl _ => none
theorem ckR_e {β : Type} {b0 : Nat} {σ : tM} {a t : Nat} {k : Nat → Option β} {z : β} (h : ckR b0 σ a t k = some z) : ∃ n, tk σ a = .inr (t, n) ∧ tIn b0 σ a ∧ k n = some z := by
  unfold ckR at h
  split at h
  · rename_i q hq
    split at h
    · rename_i hc
      obtain ⟨t1, n⟩ := q
      obtain ⟨h1, h2⟩ := hc
      dsimp only at h1 h
      subst h1
      exact ⟨n, hq, h2, h⟩
    · cases h
  · cases h
def ckI {β : Type} (i : Int32) (n : Nat) (k : Option β) : Option β := if ¬ i < 0 ∧ i.toNatClampNeg < n then k else none
theorem ckI_e {β : Type} {i : Int32} {n : Nat} {k : Option β} {z : β} (h : ckI i n k = some z) : vp_in i n ∧ k = some z := by
  unfold ckI at h
  split at h
  · rename_i hc
    exact ⟨fun q => q.elim hc.1 (fun q => absurd hc.2 (Nat.not_lt.mpr q)), h⟩
  · cases h
def ckD {β : Type} (y : Int32) (k : Option β) : Option β := if y = 0 then none else k
theorem ckD_e {β : Type} {y : Int32} {k : Option β} {z : β} (h : ckD y k = some z) : ¬ y = 0 ∧ k = some z := by
  unfold ckD at h
  split at h
  · cases h
  · rename_i hc; exact ⟨hc, h⟩
def ckL {β : Type} (y : Int64) (k : Option β) : Option β := if y = 0 then none else k
theorem ckL_e {β : Type} {y : Int64} {k : Option β} {z : β} (h : ckL y k = some z) : ¬ y = 0 ∧ k = some z := by
  unfold ckL at h
  split at h
  · cases h
  · rename_i hc; exact ⟨hc, h⟩
def ckN {β : Type} (n : Int32) (k : Option β) : Option β := if ¬ n < 0 ∧ n.toNatClampNeg ≤ 1000000 then k else none
theorem ckN_e {β : Type} {n : Int32} {k : Option β} {z : β} (h : ckN n k = some z) : ¬ n < 0 ∧ n.toNatClampNeg ≤ 1000000 ∧ k = some z := by
  unfold ckN at h
  split at h
  · rename_i hc; exact ⟨hc.1, hc.2, h⟩
  · cases h
def osm {β : Type} (o : Option Nat) (k : Nat → Option β) : Option β := match o with | some x => k x | none => none
theorem osm_e {β : Type} {o : Option Nat} {k : Nat → Option β} {z : β} (h : osm o k = some z) : ∃ x, o = some x ∧ k x = some z := by
  cases o with
  | none => cases h
  | some x => exact ⟨x, rfl, h⟩
def omt {β : Type} (o : Option Nat) (k : Nat → Option β) (k0 : Option β) : Option β := match o with | some x => k x | none => k0
theorem omt_e {β : Type} {o : Option Nat} {k : Nat → Option β} {k0 : Option β} {z : β} (h : omt o k k0 = some z) : (∃ x, o = some x ∧ k x = some z) ∨ (o = none ∧ k0 = some z) := by
  cases o with
  | none => exact Or.inr ⟨rfl, h⟩
  | some x => exact Or.inl ⟨x, rfl, h⟩
theorem rf_s {o : Option Nat} {x : Nat} (h : o = some x) : va_rf o = .ref x := by rw [h]; rfl
theorem rf_n {o : Option Nat} (h : o = none) : va_rf o = .null := by rw [h]; rfl
def cll {α β : Type} (x : Option (α × tM)) (k : α → tM → Option β) : Option β := match x with | some q => k q.1 q.2 | none => none
theorem cll_e {α β : Type} {x : Option (α × tM)} {k : α → tM → Option β} {z : β} (h : cll x k = some z) : ∃ v ρ, x = some (v, ρ) ∧ k v ρ = some z := by
  cases x with
  | none => cases h
  | some q => exact ⟨q.1, q.2, rfl, h⟩
/-- a callee that may throw: what it throws goes on -/
def clx {α β : Type} (x : Option ((α ⊕ Unit) × tM)) (k : α → tM → Option ((β ⊕ Unit) × tM)) : Option ((β ⊕ Unit) × tM) := match x with
  | some (.inl v, ρ) => k v ρ
  | some (.inr _, ρ) => some (.inr (), ρ)
  | none => none
theorem clx_e {α β : Type} {x : Option ((α ⊕ Unit) × tM)} {k : α → tM → Option ((β ⊕ Unit) × tM)} {z : (β ⊕ Unit) × tM} (h : clx x k = some z) : (∃ v ρ, x = some (.inl v, ρ) ∧ k v ρ = some z) ∨ ∃ ρ, x = some (.inr (), ρ) ∧ z = (.inr (), ρ) := by
  match x, h with
  | some (.inl v, ρ), h => exact Or.inl ⟨v, ρ, rfl, h⟩
  | some (.inr (), ρ), h => exact Or.inr ⟨ρ, rfl, (Option.some.inj h).symm⟩
  | none, h => cases h
def grw {α : Type} (σ : tM) (x : Option (α × tM)) : Option (α × tM) := match x with | some q => (if tn σ ≤ tn q.2 ∧ tu σ ≤ tu q.2 then some q else none) | none => none
theorem grw_e {α : Type} {σ τ : tM} {x : Option (α × tM)} {v : α} (h : grw σ x = some (v, τ)) : (tn σ ≤ tn τ ∧ tu σ ≤ tu τ) ∧ x = some (v, τ) := by
  cases x with
  | none => cases h
  | some q =>
    unfold grw at h
    dsimp only at h
    split at h
    · rename_i hc
      cases h
      exact ⟨hc, rfl⟩
    · cases h
theorem ret_e {α : Type} {a c : α} {b d : tM} (h : some (a, b) = some (c, d)) : a = c ∧ b = d := by cases h; exact ⟨rfl, rfl⟩
theorem sN_k (σ : tM) (a : Nat) (k : Nat ⊕ (Nat × Nat)) (n : Nat) : tk (sN σ a k n) a = k := by simp [tk, sN, va_up]
theorem sN_i (b0 : Nat) (σ : tM) (k : Nat ⊕ (Nat × Nat)) (n : Nat) : tIn b0 (sN σ (b0 + tn σ) k n) (b0 + tn σ) := ⟨Nat.le_add_right _ _, by show _ < b0 + (tn σ + 1); omega⟩
theorem sN_ko {σ : tM} {a b : Nat} {k k2 : Nat ⊕ (Nat × Nat)} {n : Nat} (h : tk σ b = k2) {b0 : Nat} (hi : tIn b0 σ b) (ha : a = b0 + tn σ) : tk (sN σ a k n) b = k2 := by
  have : b ≠ a := by have := hi.2; omega
  simp only [tk, sN, va_up, if_neg this]
  exact h
theorem sN_io {σ : tM} {a b b0 : Nat} {k : Nat ⊕ (Nat × Nat)} {n : Nat} (hi : tIn b0 σ b) : tIn b0 (sN σ a k n) b := ⟨hi.1, by have := hi.2; show _ < b0 + (tn σ + 1); omega⟩
section TQ
variable {p : Program} {l : Launch} {e : Env} {s : State} {m : MethodId} {args : Array Value} {below : List Frame} {meth : Method} {c : Code} {nL fr lo : Nat} {D : va_G} {aC : Nat → ClassId} {b0 : Nat} {σ0 : tM} {r : Option Value ⊕ String} {τ : tM} {pc : Nat} {lv : List (Nat × Value)} {st : List Value} {σ : tM} {own : String} {cc : ByteArray} {ret : Option FieldType}
theorem zx_lv (ks : List Nat) (lv2 : List (Nat × Value)) (h : lv_pick lv ks = lv2) (k : tX p l e s m args below meth c nL fr lo D aC b0 σ0 r τ pc lv2 st σ) : tX p l e s m args below meth c nL fr lo D aC b0 σ0 r τ pc lv st σ :=
  ⟨k.1, fun a b H locs ls hl hP hS => k.2 a b H locs ls (lv_sub hl ks h) hP hS⟩
theorem zx_max (C : tCx p l s m args meth c own cc nL ret D aC b0 σ0) {x y : Int32} {idx : Nat} (h1 : Cond.methodLink own idx Lib.Math.max.name ∈ lwg) (h2 : Cond.static Lib.Math.max.name ∈ lwg) (h3 : Cond.initialized "java/lang/Math" ∈ lwg) (h4 : Cond.code Lib.Math.max.name Lib.Math.max.code 2 (some .int) ∈ lwg) (hf : 1 ≤ fr) (hlo : 21 ≤ lo) (hw : (st.map fun v => v.category).sum ≤ 8) (hd : decode cc pc = .ok (.invokestatic idx, 3))
    (k : tX p l e s m args below meth c nL fr lo D aC b0 σ0 r τ (pc + 3) lv (.int (if x < y then y else x) :: st) σ) : tX p l e s m args below meth c nL fr lo D aC b0 σ0 r τ pc lv (.int y :: .int x :: st) σ := by
  have g := k.1
  refine ⟨k.1, fun g1 g2 H locs ls hl hP hS => ?_⟩
  obtain ⟨hx, hb, hrt, hml, hown, hts, hlk, ⟨hK, hO⟩, -⟩ := C
  exact va_mmax hx hb (hml.trans hl.1.symm) hown (hts _ h1) (hts _ h2) (hts _ h3) (hts _ h4) hf (by show _ ≤ lo; omega) (by show _ ≤ tn τ - tn σ0; omega) (by show _ ≤ tu τ - tu σ0; omega) hd (k.2 g1 g2 H locs ls hl hP hS)
theorem zx_min (C : tCx p l s m args meth c own cc nL ret D aC b0 σ0) {x y : Int32} {idx : Nat} (h1 : Cond.methodLink own idx Lib.Math.min.name ∈ lwg) (h2 : Cond.static Lib.Math.min.name ∈ lwg) (h3 : Cond.initialized "java/lang/Math" ∈ lwg) (h4 : Cond.code Lib.Math.min.name Lib.Math.min.code 2 (some .int) ∈ lwg) (hf : 1 ≤ fr) (hlo : 21 ≤ lo) (hw : (st.map fun v => v.category).sum ≤ 8) (hd : decode cc pc = .ok (.invokestatic idx, 3))
    (k : tX p l e s m args below meth c nL fr lo D aC b0 σ0 r τ (pc + 3) lv (.int (if y < x then y else x) :: st) σ) : tX p l e s m args below meth c nL fr lo D aC b0 σ0 r τ pc lv (.int y :: .int x :: st) σ := by
  have g := k.1
  refine ⟨k.1, fun g1 g2 H locs ls hl hP hS => ?_⟩
  obtain ⟨hx, hb, hrt, hml, hown, hts, hlk, ⟨hK, hO⟩, -⟩ := C
  exact va_mmin hx hb (hml.trans hl.1.symm) hown (hts _ h1) (hts _ h2) (hts _ h3) (hts _ h4) hf (by show _ ≤ lo; omega) (by show _ ≤ tn τ - tn σ0; omega) (by show _ ≤ tu τ - tu σ0; omega) hd (k.2 g1 g2 H locs ls hl hP hS)
end TQ
