/-! ===== PURE: the journal's append ===== -/
/-- a transaction more: its numbers, its lists -/
def adT (D : tD) (x st at_ sz T R : Nat) (tl z rl : Nat → Nat) : tD :=
  (D.1, D.2.1, D.2.2.1, D.2.2.2.1,
    (fun f n => if n = dH D + 1 then (if f = 0 then x else if f = 2 then st else if f = 3 then at_ else if f = 4 then sz else if f = 5 then x + 1 else if f = 6 then x + 2 else if f = 7 then x + 3 else if f = 8 then T else if f = 9 then R else 0) else dT D f n),
    (fun f n k => if n = dH D + 1 then (if f = 0 then tl k else if f = 1 then z k else rl k) else dX D f n k), dL D, dH D + 1, D.2.2.2.2.2.2.2.2)
section APP
variable {b0 fu : Nat} {σ τ ρ : tM} {C C' : tS} {D D' D'' : tD} {pl : Nat → Nat × Nat} {mo z tl rl : Nat → Nat} {m n x T R t r c st at_ sz : Nat} {i0 : Nat → Int32}
/-- the objects of a new transaction -/
def nwT (b0 : Nat) (σ : tM) (n st at_ sz T R : Nat) : tM :=
  let x := b0 + tn σ
  let a := sN (sI (sI (sI (sI (sN σ x (.inl 7) 8) x 0 (nI n)) x 1 (nI st)) x 2 (nI at_)) x 3 (nI sz)) (x + 1) (.inr (0, T)) T
  let b := sN (sA a x 4 (some (x + 1))) (x + 2) (.inr (4, T)) T
  let c := sN (sA b x 5 (some (x + 2))) (x + 3) (.inr (0, R)) R
  sA c x 6 (some (x + 3))
theorem cat_i {p : Nat} (hp : p < 2147483648) : (if (0 : Int32) < nI p then nI p else 0 : Int32) = nI p := by
  show (if nI 0 < nI p then nI p else nI 0) = nI p
  rw [if_t (by omega) hp]
  by_cases c : 0 < p
  · rw [if_pos c]
  · rw [if_neg c, show p = 0 by omega]
theorem init7_c {n st at_ sz T R : Nat} (h74 : 74 ≤ tn σ) (hT : T ≤ 1000000) (hR : R ≤ 1000000) : m_X7_init b0 fu (b0 + tn σ) (nI n) (nI st) (nI at_) (nI sz) (nI T) (nI R) (sN σ (b0 + tn σ) (.inl 7) 8) = some ((), nwT b0 σ n st at_ sz T R) := by
  have k0 : ∀ (ρ : tM), tk ρ (b0 + tn σ) = .inl 7 → b0 + tn σ < b0 + tn ρ → ∀ (k : Option (Unit × tM)), ckO b0 ρ (b0 + tn σ) 7 k = k := fun ρ h1 h2 k => ckO_p h1 ⟨by omega, h2⟩
  have cN : ∀ {p : Nat} (k : Option (Unit × tM)), p ≤ 1000000 → ckN (nI p) k = k := fun k hp => by
    unfold ckN
    rw [if_pos ⟨by rw [show (0 : Int32) = nI 0 from rfl, nI_ltP (by omega) (by omega)]; omega, by rw [nI_cl (by omega)]; exact hp⟩]
  have kk : ∀ (ρ : tM), tk ρ (b0 + tn σ) = .inl 7 → ∀ (y : Nat) (q : Nat ⊕ (Nat × Nat)) (w : Nat), y ≠ b0 + tn σ → tk (sN ρ y q w) (b0 + tn σ) = .inl 7 := fun ρ h y q w hy => by
    rw [rd_kN, if_neg (fun e => hy e.symm)]
    exact h
  have k2 : tk (sI (sI (sI (sI (sN σ (b0 + tn σ) (.inl 7) 8) (b0 + tn σ) 0 (nI n)) (b0 + tn σ) 1 (nI st)) (b0 + tn σ) 2 (nI at_)) (b0 + tn σ) 3 (nI sz)) (b0 + tn σ) = .inl 7 := by
    show tk (sN σ (b0 + tn σ) (.inl 7) 8) (b0 + tn σ) = _
    rw [rd_kN, if_pos rfl]
  have k3 := kk _ k2 (b0 + (tn σ + 1)) (.inr (0, T)) T (by omega)
  have k4 := kk (sA (sN (sI (sI (sI (sI (sN σ (b0 + tn σ) (.inl 7) 8) (b0 + tn σ) 0 (nI n)) (b0 + tn σ) 1 (nI st)) (b0 + tn σ) 2 (nI at_)) (b0 + tn σ) 3 (nI sz)) (b0 + (tn σ + 1)) (.inr (0, T)) T) (b0 + tn σ) 4 (some (b0 + (tn σ + 1)))) k3 (b0 + (tn σ + 1 + 1)) (.inr (4, T)) T (by omega)
  unfold m_X7_init
  have e2 : ∀ (ρ : tM) y q w, tn (sN ρ y q w) = tn ρ + 1 := fun _ _ _ _ => rfl
  have e3 : ∀ (ρ : tM) a j v, tn (sI ρ a j v) = tn ρ := fun _ _ _ _ => rfl
  have e4 : ∀ (ρ : tM) a j v, tn (sA ρ a j v) = tn ρ := fun _ _ _ _ => rfl
  rw [cat_i (by omega), cat_i (by omega), nI_cl (by omega), nI_cl (by omega)]
  rw [k0 _ (by rw [rd_kN, if_pos rfl]) (by show b0 + tn σ < b0 + (tn σ + 1); omega), cN _ hT, ltb_def]
  try simp only [e2, e3, e4]
  rw [k0 _ k3 (by show b0 + tn σ < b0 + (tn σ + 1 + 1); omega), cN _ hT, ltb_def]
  try simp only [e2, e3, e4]
  rw [k0 _ k4 (by show b0 + tn σ < b0 + (tn σ + 1 + 1 + 1); omega), cN _ hR, ltb_def]
  try simp only [e2, e3, e4]
  rw [k0 _ (kk (sA (sN (sA (sN (sI (sI (sI (sI (sN σ (b0 + tn σ) (.inl 7) 8) (b0 + tn σ) 0 (nI n)) (b0 + tn σ) 1 (nI st)) (b0 + tn σ) 2 (nI at_)) (b0 + tn σ) 3 (nI sz)) (b0 + (tn σ + 1)) (.inr (0, T)) T) (b0 + tn σ) 4 (some (b0 + (tn σ + 1)))) (b0 + (tn σ + 1 + 1)) (.inr (4, T)) T) (b0 + tn σ) 5 (some (b0 + (tn σ + 1 + 1)))) k4 (b0 + (tn σ + 1 + 1 + 1)) (.inr (0, R)) R (by omega)) (by show b0 + tn σ < b0 + (tn σ + 1 + 1 + 1 + 1); omega)]
  exact grw_p rfl (by show tn σ + 1 ≤ tn σ + 1 + 1 + 1 + 1; omega) (by show tu σ + 8 ≤ tu σ + 8 + T + T + R; omega)
end APP
