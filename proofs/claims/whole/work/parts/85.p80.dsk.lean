/-! ===== PURE: the class's Disk: its relation to the reference's; keep ===== -/
/-- the class's tag of what a version is -/
def tgA (bi sp : Nat → Nat) (wh id : Nat) : Nat := if wh = 0 then 0 else if wh = 1 then id else if wh = 2 then sp id else bi id
def bytR (w f : Nat → Nat) (o : Nat) : Prop := ∀ j, j < 256 → by8 (w (j / 8)) (j % 8) = f (o + j)
def SL (bi sp : Nat → Nat) (C : tS) (D : tD) (A : tS) (s : Nat) : Prop := C 6 s = A 42 s ∧ C 7 s = tgA bi sp (A 43 s) (A 44 s) ∧ (C 9 s = if A 43 s = 3 then 1 else 0) ∧ (A 43 s = 3 → ∃ a, dP D 8 s = some a ∧ bytR (dW D a) (A 45) (256 * s))
def KB (bi sp : Nat → Nat) (C : tS) (D : tD) (A : tS) (b : Nat) : Prop := C 2 b = tgA bi sp (A 39 b) (A 40 b) ∧ (A 39 b = 3 → 34 + A 35 6 ≤ b ∧ ∃ a, dP D 3 b = some a ∧ bytR (dW D a) (A 41) (256 * (b - 34 - A 35 6)))
/-- the journal's part is the same -/
def JP (D D' : tD) : Prop := (dP D' 21 = dP D 21 ∧ dS D' = dS D ∧ dN D' = dN D ∧ dT D' = dT D ∧ dX D' = dX D ∧ dL D' = dL D ∧ dH D' = dH D) ∧ (∀ c a, c < 2034 → dP D 21 c = some a → dW D' a = dW D a) ∧ (∀ n k, dL D < n → n ≤ dH D → k < dT D 8 n → dW D' (dX D 1 n k) = dW D (dX D 1 n k))
def swP (D : tD) (b s : Nat) : tD := ((fun o j => if o = 3 ∧ j = b then dP D 8 s else if o = 8 ∧ j = s then dP D 3 b else dP D o j), D.2)
/-- how many rows the disk has -/
def kpn (D : tD) : Nat := cn (fun b => (dP D 3 b).isSome) 0 6130 + cn (fun s => (dP D 8 s).isSome) 0 256
/-- what is made, rows of the disk apart -/
def EP (D D' : tD) (n m : Nat) : Prop := dE D' + 34 * kpn D = dE D + 34 * kpn D' + n ∧ dO D' + 2 * kpn D = dO D + 2 * kpn D' + m
section DK
variable {b0 fu : Nat} {σ τ : tM} {A B : tS} {C : tS} {D D' D'' : tD} {bi sp : Nat → Nat} {pl : Nat → Nat × Nat}
theorem JP_r (D : tD) : JP D D := ⟨⟨rfl, rfl, rfl, rfl, rfl, rfl, rfl⟩, fun _ _ _ _ => rfl, fun _ _ _ _ _ => rfl⟩
theorem JP_t (h : JP D D') (k : JP D' D'') : JP D D'' := by
  obtain ⟨⟨h1, h2, h3, h4, h5, h6, h7⟩, h8, h9⟩ := h
  obtain ⟨⟨k1, k2, k3, k4, k5, k6, k7⟩, k8, k9⟩ := k
  refine ⟨⟨k1.trans h1, k2.trans h2, k3.trans h3, k4.trans h4, k5.trans h5, k6.trans h6, k7.trans h7⟩, fun c a hc e => ?_, fun n k e1 e2 e3 => ?_⟩
  · rw [k8 c a hc (by rw [h1]; exact e), h8 c a hc e]
  · have := k9 n k (by rw [h6]; exact e1) (by rw [h7]; exact e2) (by rw [h4]; exact e3)
    rw [h5] at this
    rw [this, h9 n k e1 e2 e3]
theorem EP_r (D : tD) : EP D D 0 0 := ⟨(Nat.add_zero _).symm, (Nat.add_zero _).symm⟩
theorem EP_t {n m n' m' : Nat} (h : EP D D' n m) (k : EP D' D'' n' m') : EP D D'' (n + n') (m + m') := by
  obtain ⟨h1, h2⟩ := h
  obtain ⟨k1, k2⟩ := k
  exact ⟨by omega, by omega⟩
theorem kpn_swap {b s : Nat} (hb : b < 6130) (hs : s < 256) : kpn (swP D b s) = kpn D := by
  have e3 : ∀ j, (dP (swP D b s) 3 j) = if j = b then dP D 8 s else dP D 3 j := fun j => by
    show (if (3 = 3 ∧ j = b) then dP D 8 s else if (3 = 8 ∧ j = s) then dP D 3 b else dP D 3 j) = _
    by_cases c : j = b
    · rw [if_pos ⟨rfl, c⟩, if_pos c]
    · rw [if_neg (fun r => c r.2), if_neg (by omega), if_neg c]
  have e8 : ∀ j, (dP (swP D b s) 8 j) = if j = s then dP D 3 b else dP D 8 j := fun j => by
    show (if (8 = 3 ∧ j = b) then dP D 8 s else if (8 = 8 ∧ j = s) then dP D 3 b else dP D 8 j) = _
    by_cases c : j = s
    · rw [if_neg (by omega), if_pos ⟨rfl, c⟩, if_pos c]
    · rw [if_neg (by omega), if_neg (fun r => c r.2), if_neg c]
  have n3 : ∀ i, i ≠ b → (dP (swP D b s) 3 i).isSome = (dP D 3 i).isSome := fun i hi => by rw [e3, if_neg hi]
  have n8 : ∀ i, i ≠ s → (dP (swP D b s) 8 i).isSome = (dP D 8 i).isSome := fun i hi => by rw [e8, if_neg hi]
  have b3 : (dP (swP D b s) 3 b).isSome = (dP D 8 s).isSome := by rw [e3, if_pos rfl]
  have b8 : (dP (swP D b s) 8 s).isSome = (dP D 3 b).isSome := by rw [e8, if_pos rfl]
  unfold kpn
  cases u : (dP D 3 b).isSome <;> cases v : (dP D 8 s).isSome
  · rw [cn_congr (q := fun i => (dP D 3 i).isSome) 6130 0 (fun i _ _ => by
      by_cases c : i = b
      · rw [c, b3, u, v]
      · exact n3 i c), cn_congr (q := fun i => (dP D 8 i).isSome) 256 0 (fun i _ _ => by
      by_cases c : i = s
      · rw [c, b8, u, v]
      · exact n8 i c)]
  · have t1 := cn_on (p := fun i => (dP D 3 i).isSome) (q := fun i => (dP (swP D b s) 3 i).isSome) (x := b) u (b3.trans v) 6130 0 (Nat.zero_le _) (by omega) (fun i _ _ hi => (n3 i hi).symm)
    have t2 := cn_on (p := fun i => (dP (swP D b s) 8 i).isSome) (q := fun i => (dP D 8 i).isSome) (x := s) (b8.trans u) v 256 0 (Nat.zero_le _) (by omega) (fun i _ _ hi => n8 i hi)
    omega
  · have t1 := cn_on (p := fun i => (dP (swP D b s) 3 i).isSome) (q := fun i => (dP D 3 i).isSome) (x := b) (b3.trans v) u 6130 0 (Nat.zero_le _) (by omega) (fun i _ _ hi => n3 i hi)
    have t2 := cn_on (p := fun i => (dP D 8 i).isSome) (q := fun i => (dP (swP D b s) 8 i).isSome) (x := s) v (b8.trans u) 256 0 (Nat.zero_le _) (by omega) (fun i _ _ hi => (n8 i hi).symm)
    omega
  · rw [cn_congr (q := fun i => (dP D 3 i).isSome) 6130 0 (fun i _ _ => by
      by_cases c : i = b
      · rw [c, b3, u, v]
      · exact n3 i c), cn_congr (q := fun i => (dP D 8 i).isSome) 256 0 (fun i _ _ => by
      by_cases c : i = s
      · rw [c, b8, u, v]
      · exact n8 i c)]
theorem same_new {k : Nat ⊕ (Nat × Nat)} {n a : Nat} (h : a < b0 + tn σ) : same σ (sN σ (b0 + tn σ) k n) a := same_sN (by omega)
theorem FC_new {k : Nat ⊕ (Nat × Nat)} {n : Nat} (h : rfO b0 σ) (h74 : 74 ≤ tn σ) : FC b0 σ (sN σ (b0 + tn σ) k n) := ⟨Nat.le_succ _, Nat.le_add_right _ _, fun a ha => same_new (by
  rcases ha with q | q
  · exact (h a q).2.2
  · omega)⟩
/-- something is made that nothing leads to -/
theorem CM_new {k : Nat ⊕ (Nat × Nat)} {n : Nat} (h : CM b0 σ C D) : CM b0 (sN σ (b0 + tn σ) k n) C (D.1, D.2.1, D.2.2.1, D.2.2.2.1, D.2.2.2.2.1, D.2.2.2.2.2.1, D.2.2.2.2.2.2.1, D.2.2.2.2.2.2.2.1, dE D + n, dO D + 1) := by
  have h74 := h.lay.1
  have fc := FC_new (k := k) (n := n) h.rf h74
  obtain ⟨h1, h2, ⟨h3, h4⟩, pl, h5⟩ := h
  have ps := FC_psi fc
  have e1 : tn (sN σ (b0 + tn σ) k n) = tn σ + 1 := rfl
  have e2 : tu (sN σ (b0 + tn σ) k n) = tu σ + n := rfl
  refine ⟨CA_same h1 (layC_33 h1.lay (Nat.le_succ _) (fun o ho => same_new (by omega))) (fun o ho => (same_new (σ := σ) (by omega)).2.1) (same_new (σ := σ) (by omega)).2.2.1, FC_rf fc h2, ⟨?_, ?_⟩, pl, ?_⟩
  · rw [ps, e2]
    show tu σ + n ≤ dE D + n + psi b0 σ
    omega
  · rw [ps, e1]
    show 64 * (tn σ + 1) ≤ 64 * (dO D + 1) + psi b0 σ
    omega
  · exact DY_same (D := (D.1, D.2.1, D.2.2.1, D.2.2.2.1, D.2.2.2.2.1, D.2.2.2.2.2.1, D.2.2.2.2.2.2.1, D.2.2.2.2.2.2.2.1, dE D + n, dO D + 1)) h5 (Nat.le_succ _) (fun a ha q => (FC_ref fc a).mp q) (fun o j q => by rw [(same_new (σ := σ) (k := k) (n := n) (a := b0 + o) (by rcases q with q | q | q <;> omega)).2.2.2]) (by rw [(same_new (σ := σ) (k := k) (n := n) (a := b0 + 20) (by omega)).2.2.2]; exact ⟨rfl, rfl, rfl⟩) (fun a q1 q2 _ _ => same_new q2)
theorem row_sA {o j : Nat} {v : Option Nat} (ho : o < 33) {a : Nat} {w : Nat → Nat} (h : isRow b0 σ a w) : isRow b0 (sA σ (b0 + o) j v) a w := by
  have h4 := h.2.2.2.1
  refine isRow_same h (Nat.le_refl _) ⟨same_sA (by omega), same_sA (by omega)⟩ ?_
  have h5 := h.2.2.2.2.1
  have e : ∀ x, refO b0 (sA σ (b0 + o) j v) x ↔ refO b0 σ x := fun x => by
    unfold refO
    rw [rd_A1 σ (b0 + o) j v (show b0 + 35 ≠ b0 + o by omega)]
  exact ⟨fun r => h5.1 ((e _).mp r), fun r => h5.2 ((e _).mp r)⟩
theorem ref_sA {o j : Nat} {v : Option Nat} (ho : o < 33) (x : Nat) : refO b0 (sA σ (b0 + o) j v) x ↔ refO b0 σ x := by
  unfold refO
  rw [rd_A1 σ (b0 + o) j v (show b0 + 35 ≠ b0 + o by omega)]
theorem tx_sA {o j n : Nat} {v : Option Nat} {pl' : Nat → Nat × Nat} {P : Nat → Nat → Option Nat} (ho : o < 33) (h : isTx b0 σ D pl n) (hp : ∀ k, k < dT D 8 n → pl' (dX D 1 n k) = pl (dX D 1 n k)) : isTx b0 (sA σ (b0 + o) j v) (P, D.2) pl' n := by
  obtain ⟨k1, k2, k3, k4, k5, k6, k7⟩ := h
  have na : ∀ a, isO b0 σ a → tA (sA σ (b0 + o) j v) a = tA σ a := fun a q => rd_A1 σ (b0 + o) j v (by have := q.1; omega)
  have io : ∀ a, isO b0 σ a → isO b0 (sA σ (b0 + o) j v) a := fun a q => ⟨q.1, q.2.1, q.2.2.1, fun r => q.2.2.2 ((ref_sA ho a).mp r)⟩
  refine ⟨k1, ⟨io _ k2.1, io _ k2.2.1, io _ k2.2.2.1, io _ k2.2.2.2⟩, k3, ?_, k5, fun k hk => ?_, k7⟩
  · show tA (sA σ (b0 + o) j v) (dT D 0 n) 4 = _ ∧ tA (sA σ (b0 + o) j v) (dT D 0 n) 5 = _ ∧ tA (sA σ (b0 + o) j v) (dT D 0 n) 6 = _ ∧ tA (sA σ (b0 + o) j v) (dT D 0 n) 7 = _
    rw [na _ k2.1]
    exact k4
  · obtain ⟨a1, a2, a3, a4⟩ := k6 k hk
    refine ⟨a1, ?_, row_sA ho a3, ?_⟩
    · show tA (sA σ (b0 + o) j v) (dT D 6 n) k = _
      rw [na _ k2.2.2.1]
      exact a2
    · rw [← a4]
      exact hp k hk
/-- two rows change their places -/
theorem DY_swap {b s : Nat} (hb : b < 6130) (hs : s < 256) (h : DY b0 σ D pl) : ∃ pl', DY b0 (sA (sA σ (b0 + 3) b (dP D 8 s)) (b0 + 8) s (dP D 3 b)) (swP D b s) pl' := by
  obtain ⟨h1, ⟨h2, h3⟩, ⟨h4, h5, h6, h7⟩, h8⟩ := h
  refine ⟨fun a => if some a = dP D 8 s then (3, b) else if some a = dP D 3 b then (8, s) else pl a, ?_⟩
  have k8 := (h1 8 s (Or.inr (Or.inl ⟨rfl, hs⟩))).2
  have k3 := (h1 3 b (Or.inl ⟨rfl, hb⟩)).2
  have oth : ∀ a, pl a ≠ (8, s) → pl a ≠ (3, b) → (if some a = dP D 8 s then (3, b) else if some a = dP D 3 b then (8, s) else pl a) = pl a := by
    intro a q1 q2
    rw [if_neg (fun e => q1 (k8 a e.symm).2), if_neg (fun e => q2 (k3 a e.symm).2)]
  have t20 : tA (sA (sA σ (b0 + 3) b (dP D 8 s)) (b0 + 8) s (dP D 3 b)) (b0 + 20) = tA σ (b0 + 20) := by rw [rd_A1 _ _ _ _ (show b0 + 20 ≠ b0 + 8 by omega), rd_A1 _ _ _ _ (show b0 + 20 ≠ b0 + 3 by omega)]
  have eP : ∀ o j, dP (swP D b s) o j = if o = 3 ∧ j = b then dP D 8 s else if o = 8 ∧ j = s then dP D 3 b else dP D o j := fun _ _ => rfl
  refine ⟨fun o j q => ⟨?_, fun a e => ?_⟩, ⟨by rw [t20]; exact h2, fun k hk => ?_⟩, ⟨h4, h5, by rw [t20]; exact h6, by rw [t20]; exact h7⟩, fun n q1 q2 => ?_⟩
  · rw [eP]
    have q0 := q
    rcases q with ⟨rfl, hj⟩ | ⟨rfl, hj⟩ | ⟨rfl, hj⟩
    · rw [rd_AAa (show b0 + 3 ≠ b0 + 8 by omega), rd_AA, if_pos rfl]
      by_cases e2 : j = b
      · rw [if_pos e2, if_pos ⟨rfl, e2⟩]
      · rw [if_neg e2, if_neg (fun r => e2 r.2), if_neg (by omega)]
        exact (h1 3 j q0).1
    · rw [rd_AA, if_pos rfl]
      by_cases e3 : j = s
      · rw [if_pos e3, if_neg (by omega), if_pos ⟨rfl, e3⟩]
      · rw [if_neg e3, rd_AAa (show b0 + 8 ≠ b0 + 3 by omega), if_neg (by omega), if_neg (fun r => e3 r.2)]
        exact (h1 8 j q0).1
    · rw [rd_AAa (show b0 + 21 ≠ b0 + 8 by omega), rd_AAa (show b0 + 21 ≠ b0 + 3 by omega), if_neg (by omega), if_neg (by omega)]
      exact (h1 21 j q0).1
  · rw [eP] at e
    by_cases e1 : o = 3 ∧ j = b
    · rw [if_pos e1] at e
      refine ⟨row_sA (by omega) (row_sA (by omega) (k8 a e).1), ?_⟩
      show (if some a = dP D 8 s then (3, b) else _) = (o, j)
      rw [if_pos e.symm, e1.1, e1.2]
    · rw [if_neg e1] at e
      by_cases e2 : o = 8 ∧ j = s
      · rw [if_pos e2] at e
        refine ⟨row_sA (by omega) (row_sA (by omega) (k3 a e).1), ?_⟩
        show (if some a = dP D 8 s then (3, b) else if some a = dP D 3 b then (8, s) else _) = (o, j)
        rw [if_neg (fun q => by
          have p1 := (k8 a q.symm).2
          have p2 := (k3 a e).2
          rw [p1] at p2
          cases p2), if_pos e.symm, e2.1, e2.2]
      · rw [if_neg e2] at e
        obtain ⟨r1, r2⟩ := (h1 o j q).2 a e
        exact ⟨row_sA (by omega) (row_sA (by omega) r1), (oth a (fun p => e2 (by rw [r2] at p; cases p; exact ⟨rfl, rfl⟩)) (fun p => e1 (by rw [r2] at p; cases p; exact ⟨rfl, rfl⟩))).trans r2⟩
  · obtain ⟨a1, a2, a3⟩ := h3 k hk
    have n4 := a1.2.2.2.1
    refine ⟨row_sA (by omega) (row_sA (by omega) a1), (oth (dS D k) (fun p => by rw [a2] at p; cases p) (fun p => by rw [a2] at p; cases p)).trans a2, ?_⟩
    show tA (sA (sA σ (b0 + 3) b (dP D 8 s)) (b0 + 8) s (dP D 3 b)) (dS D k) 1 = _
    rw [rd_A1 _ _ _ _ (by omega), rd_A1 _ _ _ _ (by omega)]
    exact a3
  · have t := h8 n q1 q2
    have k6 := t.2.2.2.2.2.1
    have t1 := tx_sA (o := 3) (j := b) (v := dP D 8 s) (pl' := pl) (P := dP D) (by omega) t (fun _ _ => rfl)
    exact tx_sA (D := (dP D, D.2)) (o := 8) (j := s) (v := dP D 3 b) (P := fun o j => if o = 3 ∧ j = b then dP D 8 s else if o = 8 ∧ j = s then dP D 3 b else dP D o j) (by omega) t1 (fun k hk => oth _ (fun p => by
      have := (k6 k hk).2.2.2
      rw [show dX (dP D, D.2) 1 n k = dX D 1 n k from rfl] at p
      rw [this] at p
      have := congrArg Prod.fst p
      simp at this
      omega) (fun p => by
      have := (k6 k hk).2.2.2
      rw [show dX (dP D, D.2) 1 n k = dX D 1 n k from rfl] at p
      rw [this] at p
      have := congrArg Prod.fst p
      simp at this
      omega))
end DK
