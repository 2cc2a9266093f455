/-! ===== PURE: a walk of a method's function by what holds behind it ===== -/
/-- x ends at τ with v, F holds from σ to τ, and Q of both -/
def wp {α : Type} (F : tM → tM → Prop) (σ : tM) (x : Option (α × tM)) (Q : α → tM → Prop) : Prop := ∃ v τ, x = some (v, τ) ∧ F σ τ ∧ Q v τ
/-- what a frame relation must be -/
def goodF (F : tM → tM → Prop) : Prop := (∀ σ, F σ σ) ∧ (∀ σ τ ρ, F σ τ → F τ ρ → F σ ρ) ∧ (∀ σ τ, F σ τ → tn σ ≤ tn τ ∧ tu σ ≤ tu τ)
section WP
variable {α β : Type} {F : tM → tM → Prop} {σ σ1 τ : tM} {Q : α → tM → Prop}
theorem wp_ret {v : α} (h : F σ τ) (q : Q v τ) : wp F σ (some (v, τ)) Q := ⟨v, τ, rfl, h, q⟩
theorem wp_from (G : goodF F) {x : Option (α × tM)} (h : F σ σ1) (k : wp F σ1 x Q) : wp F σ x Q := by
  obtain ⟨v, τ, e, f, q⟩ := k
  exact ⟨v, τ, e, G.2.1 _ _ _ h f, q⟩
theorem wp_to (G : goodF F) {x : Option (α × tM)} (k : wp F σ1 x Q) (h : F σ σ1) : wp F σ x Q := wp_from G h k
theorem wp_cll (G : goodF F) {x : Option (β × tM)} {k : β → tM → Option (α × tM)} (h : wp F σ x (fun v ρ => wp F ρ (k v ρ) Q)) : wp F σ (cll x k) Q := by
  obtain ⟨v, τ, e, f, q⟩ := h
  subst e
  exact wp_from G f q
theorem wp_bind (G : goodF F) {x : Option (β × tM)} {k : β → tM → Option (α × tM)} {P : β → tM → Prop} (h : wp F σ x P) (c : ∀ v ρ, P v ρ → wp F ρ (k v ρ) Q) : wp F σ (cll x k) Q := by
  obtain ⟨v, τ, e, f, q⟩ := h
  subst e
  exact wp_from G f (c v τ q)
theorem wp_bind1 (G : goodF F) (h1 : F σ σ1) {x : Option (β × tM)} {k : β → tM → Option (α × tM)} {P : β → tM → Prop} (h : wp F σ1 x P) (c : ∀ v ρ, P v ρ → wp F ρ (k v ρ) Q) : wp F σ (cll x k) Q := wp_from G h1 (wp_bind G h c)
theorem wp_grw (G : goodF F) {x : Option (α × tM)} (h : wp F σ x Q) : wp F σ (grw σ x) Q := by
  obtain ⟨v, τ, e, f, q⟩ := h
  have := G.2.2 _ _ f
  exact ⟨v, τ, grw_p e this.1 this.2, f, q⟩
theorem wp_mono {x : Option (α × tM)} {P : α → tM → Prop} (h : wp F σ x P) (k : ∀ v ρ, F σ ρ → P v ρ → Q v ρ) : wp F σ x Q := by
  obtain ⟨v, τ, e, f, q⟩ := h
  exact ⟨v, τ, e, f, k v τ f q⟩
theorem wp_rel {F2 : tM → tM → Prop} {x : Option (α × tM)} (hF : ∀ a b, F a b → F2 a b) (h : wp F σ x Q) : wp F2 σ x Q := by
  obtain ⟨v, τ, e, f, q⟩ := h
  exact ⟨v, τ, e, hF _ _ f, q⟩
theorem wp_eq {x y : Option (α × tM)} (e : x = y) (h : wp F σ y Q) : wp F σ x Q := e ▸ h
theorem wp_if {c : Prop} [Decidable c] {x y : Option (α × tM)} (h1 : c → wp F σ x Q) (h2 : ¬ c → wp F σ y Q) : wp F σ (if c then x else y) Q := by
  split
  · exact h1 ‹_›
  · exact h2 ‹_›
theorem wp_clx (G : goodF F) {x : Option ((β ⊕ Unit) × tM)} {γ : Type} {R : γ ⊕ Unit → tM → Prop} {k : β → tM → Option ((γ ⊕ Unit) × tM)} {P : β ⊕ Unit → tM → Prop} (h : wp F σ x P) (c : ∀ v ρ, P (.inl v) ρ → wp F ρ (k v ρ) R) (d : ∀ ρ, P (.inr ()) ρ → R (.inr ()) ρ) : wp F σ (clx x k) R := by
  obtain ⟨v, τ, e, f, q⟩ := h
  subst e
  cases v with
  | inl v => exact wp_from G f (c v τ q)
  | inr u => exact ⟨.inr (), τ, rfl, f, d τ q⟩
theorem wp_cly (G : goodF F) {x : Option ((β ⊕ Unit) × tM)} {k : β → tM → Option (α × tM)} {kx : tM → Option (α × tM)} {P : β ⊕ Unit → tM → Prop} (h : wp F σ x P) (c : ∀ v ρ, P (.inl v) ρ → wp F ρ (k v ρ) Q) (d : ∀ ρ, P (.inr ()) ρ → wp F ρ (kx ρ) Q) : wp F σ (cly x k kx) Q := by
  obtain ⟨v, τ, e, f, q⟩ := h
  subst e
  cases v with
  | inl v => exact wp_from G f (c v τ q)
  | inr u => exact wp_from G f (d τ q)
theorem ltb_def (e : α) (f : α → β) : ltb e f = f e := rfl
theorem cll_some {v : β} {ρ : tM} {k : β → tM → Option α} : cll (some (v, ρ)) k = k v ρ := rfl
end WP
/-- the numbers of the code as numbers -/
theorem lits : ((0 : Int32) = nI 0) ∧ ((1 : Int32) = nI 1) ∧ ((2 : Int32) = nI 2) ∧ ((3 : Int32) = nI 3) ∧ ((4 : Int32) = nI 4) ∧ ((5 : Int32) = nI 5) ∧ ((6 : Int32) = nI 6) ∧ ((7 : Int32) = nI 7) ∧ ((8 : Int32) = nI 8) ∧ ((9 : Int32) = nI 9) ∧ ((10 : Int32) = nI 10) ∧ ((11 : Int32) = nI 11) ∧ ((12 : Int32) = nI 12) ∧ ((13 : Int32) = nI 13) ∧ ((14 : Int32) = nI 14) ∧ ((15 : Int32) = nI 15) ∧ ((16 : Int32) = nI 16) ∧ ((17 : Int32) = nI 17) ∧ ((18 : Int32) = nI 18) ∧ ((19 : Int32) = nI 19) ∧ ((20 : Int32) = nI 20) ∧ ((21 : Int32) = nI 21) ∧ ((22 : Int32) = nI 22) ∧ ((23 : Int32) = nI 23) ∧ ((24 : Int32) = nI 24) ∧ ((25 : Int32) = nI 25) ∧ ((26 : Int32) = nI 26) ∧ ((27 : Int32) = nI 27) ∧ ((28 : Int32) = nI 28) ∧ ((29 : Int32) = nI 29) ∧ ((30 : Int32) = nI 30) ∧ ((31 : Int32) = nI 31) ∧ ((32 : Int32) = nI 32) ∧ ((33 : Int32) = nI 33) ∧ ((34 : Int32) = nI 34) ∧ ((40 : Int32) = nI 40) ∧ ((46 : Int32) = nI 46) ∧ ((47 : Int32) = nI 47) ∧ ((54 : Int32) = nI 54) ∧ ((63 : Int32) = nI 63) ∧ ((64 : Int32) = nI 64) ∧ ((80 : Int32) = nI 80) ∧ ((85 : Int32) = nI 85) ∧ ((93 : Int32) = nI 93) ∧ ((94 : Int32) = nI 94) ∧ ((95 : Int32) = nI 95) ∧ ((119 : Int32) = nI 119) ∧ ((120 : Int32) = nI 120) ∧ ((126 : Int32) = nI 126) ∧ ((200 : Int32) = nI 200) ∧ ((255 : Int32) = nI 255) ∧ ((256 : Int32) = nI 256) ∧ ((274 : Int32) = nI 274) ∧ ((760 : Int32) = nI 760) ∧ ((1023 : Int32) = nI 1023) ∧ ((1024 : Int32) = nI 1024) ∧ ((1063 : Int32) = nI 1063) ∧ ((1064 : Int32) = nI 1064) ∧ ((2000 : Int32) = nI 2000) ∧ ((2034 : Int32) = nI 2034) ∧ ((2047 : Int32) = nI 2047) ∧ ((2048 : Int32) = nI 2048) ∧ ((4000 : Int32) = nI 4000) ∧ ((4096 : Int32) = nI 4096) ∧ ((6080 : Int32) = nI 6080) ∧ ((6130 : Int32) = nI 6130) ∧ ((6200 : Int32) = nI 6200) ∧ ((16384 : Int32) = nI 16384) ∧ ((65536 : Int32) = nI 65536) ∧ ((272384 : Int32) = nI 272384) ∧ ((512000 : Int32) = nI 512000) ∧ ((554080 : Int32) = nI 554080) ∧ ((1000000 : Int32) = nI 1000000) := ⟨rfl, rfl, rfl, rfl, rfl, rfl, rfl, rfl, rfl, rfl, rfl, rfl, rfl, rfl, rfl, rfl, rfl, rfl, rfl, rfl, rfl, rfl, rfl, rfl, rfl, rfl, rfl, rfl, rfl, rfl, rfl, rfl, rfl, rfl, rfl, rfl, rfl, rfl, rfl, rfl, rfl, rfl, rfl, rfl, rfl, rfl, rfl, rfl, rfl, rfl, rfl, rfl, rfl, rfl, rfl, rfl, rfl, rfl, rfl, rfl, rfl, rfl, rfl, rfl, rfl, rfl, rfl, rfl, rfl, rfl, rfl, rfl, rfl⟩
theorem ckI_n {β : Type} {x n : Nat} {k : Option β} (h : x < n) (hn : n < 2 ^ 31) : ckI (nI x) n k = k := by
  have h1 : x < 2 ^ 31 := by omega
  exact ckI_p (nI_pos h1) (by rw [nI_clamp h1]; exact h)
theorem ofi (x : Nat) : nI x + Int32.ofInt 1 = nI (x + 1) := nI_1 x
theorem grw_same {α : Type} {σ : tM} {v : α} : grw σ (some (v, σ)) = some (v, σ) := grw_p rfl (Nat.le_refl _) (Nat.le_refl _)
theorem osm_some {β : Type} {x : Nat} {k : Nat → Option β} : osm (some x) k = k x := rfl
theorem nI_lt0 {x : Nat} (h : x < 2147483648) : (nI x < nI 0) = False := by
  have := nI_pos h
  rw [nI_0]; exact eq_false this
theorem nI_eqP {a b : Nat} (ha : a < 2147483648) (hb : b < 2147483648) : (nI a = nI b) = (a = b) := propext (nI_eq ha hb)
theorem nI_leP {a b : Nat} (ha : a < 2147483648) (hb : b < 2147483648) : (nI a ≤ nI b) = (a ≤ b) := propext (nI_leI ha hb)
theorem nI_ltP {a b : Nat} (ha : a < 2147483648) (hb : b < 2147483648) : (nI a < nI b) = (a < b) := propext (nI_ltI ha hb)
theorem nI_cl {n : Nat} (h : n < 2147483648) : (nI n).toNatClampNeg = n := nI_clamp h
theorem nI_dv {a d : Nat} (ha : a < 2147483648) (h0 : 0 < d) (hd : d < 2147483648) : nI a / nI d = nI (a / d) := pk_div ha h0 hd
theorem nI_md {a d : Nat} (ha : a < 2147483648) (h0 : 0 < d) (hd : d < 2147483648) : nI a - nI (a / d * d) = nI (a % d) := by
  have h := pk_rem ha h0 hd
  rwa [pk_div ha h0 hd, pk_mul] at h
theorem nI_sb {a b : Nat} (h : b ≤ a) : nI a - nI b = nI (a - b) := pk_sub h
/-- how many from k on, m of them, are so -/
def cn (p : Nat → Bool) : Nat → Nat → Nat
  | _, 0 => 0
  | k, m + 1 => (if p k then 1 else 0) + cn p (k + 1) m
/-- the first from k on, within m, that is so; k + m without -/
def sr (p : Nat → Bool) : Nat → Nat → Nat
  | k, 0 => k
  | k, m + 1 => if p k then k else sr p (k + 1) m
theorem cn_le (p : Nat → Bool) : ∀ m k, cn p k m ≤ m
  | 0, _ => Nat.le_refl _
  | m + 1, k => by
    have := cn_le p m (k + 1)
    unfold cn
    split <;> omega
theorem ckZ_0 {β : Type} {k : Option β} : ckZ (nI 0) k = k := if_pos (Or.inl rfl)
theorem ckZ_1 {β : Type} {k : Option β} : ckZ (nI 1) k = k := if_pos (Or.inr rfl)
theorem ckR_sI {β : Type} {b0 : Nat} {σ : tM} {a j x t : Nat} {v : Int32} {k : Nat → Option β} : ckR b0 (sI σ a j v) x t k = ckR b0 σ x t k := rfl
theorem ckO_sI {β : Type} {b0 : Nat} {σ : tM} {a j x t : Nat} {v : Int32} {k : Option β} : ckO b0 (sI σ a j v) x t k = ckO b0 σ x t k := rfl
theorem ckR_sL {β : Type} {b0 : Nat} {σ : tM} {a j x t : Nat} {v : Int64} {k : Nat → Option β} : ckR b0 (sL σ a j v) x t k = ckR b0 σ x t k := rfl
theorem ckO_sL {β : Type} {b0 : Nat} {σ : tM} {a j x t : Nat} {v : Int64} {k : Option β} : ckO b0 (sL σ a j v) x t k = ckO b0 σ x t k := rfl
theorem ckR_sA {β : Type} {b0 : Nat} {σ : tM} {a j x t : Nat} {v : Option Nat} {k : Nat → Option β} : ckR b0 (sA σ a j v) x t k = ckR b0 σ x t k := rfl
theorem ckO_sA {β : Type} {b0 : Nat} {σ : tM} {a j x t : Nat} {v : Option Nat} {k : Option β} : ckO b0 (sA σ a j v) x t k = ckO b0 σ x t k := rfl
theorem ckR_sIr {β : Type} {b0 : Nat} {σ : tM} {a x t : Nat} {f : Nat → Int32} {k : Nat → Option β} : ckR b0 (sIr σ a f) x t k = ckR b0 σ x t k := rfl
theorem ckO_sIr {β : Type} {b0 : Nat} {σ : tM} {a x t : Nat} {f : Nat → Int32} {k : Option β} : ckO b0 (sIr σ a f) x t k = ckO b0 σ x t k := rfl
theorem ckR_sLr {β : Type} {b0 : Nat} {σ : tM} {a x t : Nat} {f : Nat → Int64} {k : Nat → Option β} : ckR b0 (sLr σ a f) x t k = ckR b0 σ x t k := rfl
theorem ckO_sLr {β : Type} {b0 : Nat} {σ : tM} {a x t : Nat} {f : Nat → Int64} {k : Option β} : ckO b0 (sLr σ a f) x t k = ckO b0 σ x t k := rfl
theorem rd_AIr (σ : tM) (a : Nat) (f : Nat → Int32) : tA (sIr σ a f) = tA σ := rfl
theorem rd_ALr (σ : tM) (a : Nat) (f : Nat → Int64) : tA (sLr σ a f) = tA σ := rfl
theorem rd_LIr (σ : tM) (a : Nat) (f : Nat → Int32) : tL (sIr σ a f) = tL σ := rfl
theorem rd_ILr (σ : tM) (a : Nat) (f : Nat → Int64) : tI (sLr σ a f) = tI σ := rfl
theorem if_e {α : Type} {a b : Nat} {x y : α} (ha : a < 2147483648) (hb : b < 2147483648) : (if nI a = nI b then x else y) = if a = b then x else y := by simp only [nI_eqP ha hb]
theorem if_l {α : Type} {a b : Nat} {x y : α} (ha : a < 2147483648) (hb : b < 2147483648) : (if nI a ≤ nI b then x else y) = if a ≤ b then x else y := by simp only [nI_leP ha hb]
theorem if_t {α : Type} {a b : Nat} {x y : α} (ha : a < 2147483648) (hb : b < 2147483648) : (if nI a < nI b then x else y) = if a < b then x else y := by simp only [nI_ltP ha hb]
