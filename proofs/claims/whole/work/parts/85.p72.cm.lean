/-! ===== PURE: the class's rows and transactions; the class's memory; its frame ===== -/
/-- rows by array and place; words of rows; spare rows and their number; transactions: numbers and lists; the first and the last; elements and objects made -/
abbrev tD : Type := (Nat → Nat → Option Nat) × (Nat → Nat → Nat) × (Nat → Nat) × Nat × (Nat → Nat → Nat) × (Nat → Nat → Nat → Nat) × Nat × Nat × Nat × Nat
def dP (D : tD) : Nat → Nat → Option Nat := D.1
def dW (D : tD) : Nat → Nat → Nat := D.2.1
def dS (D : tD) : Nat → Nat := D.2.2.1
def dN (D : tD) : Nat := D.2.2.2.1
def dT (D : tD) : Nat → Nat → Nat := D.2.2.2.2.1
def dX (D : tD) : Nat → Nat → Nat → Nat := D.2.2.2.2.2.1
def dL (D : tD) : Nat := D.2.2.2.2.2.2.1
def dH (D : tD) : Nat := D.2.2.2.2.2.2.2.1
def dE (D : tD) : Nat := D.2.2.2.2.2.2.2.2.1
def dO (D : tD) : Nat := D.2.2.2.2.2.2.2.2.2
def isRow (b0 : Nat) (σ : tM) (a : Nat) (w : Nat → Nat) : Prop := tk σ a = .inl 4 ∧ tk σ (a + 1) = .inr (3, 32) ∧ tA σ a 0 = some (a + 1) ∧ (b0 + 33 ≤ a ∧ a + 1 < b0 + tn σ ∧ a ≠ b0 + 73 ∧ a + 1 ≠ b0 + 73) ∧ (¬ refO b0 σ a ∧ ¬ refO b0 σ (a + 1)) ∧ ∀ j, tL σ (a + 1) j = lN (w j) ∧ w j < 18446744073709551616
def isP (o j : Nat) : Prop := (o = 3 ∧ j < 6130) ∨ (o = 8 ∧ j < 256) ∨ (o = 21 ∧ j < 2034)
/-- an object of the class's that comes and goes -/
def isO (b0 : Nat) (σ : tM) (a : Nat) : Prop := b0 + 33 ≤ a ∧ a < b0 + tn σ ∧ a ≠ b0 + 73 ∧ ¬ refO b0 σ a
def isTx (b0 : Nat) (σ : tM) (D : tD) (pl : Nat → Nat × Nat) (n : Nat) : Prop :=
  (tk σ (dT D 0 n) = .inl 7 ∧ tk σ (dT D 5 n) = .inr (0, dT D 8 n) ∧ tk σ (dT D 6 n) = .inr (4, dT D 8 n) ∧ tk σ (dT D 7 n) = .inr (0, dT D 9 n)) ∧
  (isO b0 σ (dT D 0 n) ∧ isO b0 σ (dT D 5 n) ∧ isO b0 σ (dT D 6 n) ∧ isO b0 σ (dT D 7 n)) ∧
  (tI σ (dT D 0 n) 0 = nI n ∧ tI σ (dT D 0 n) 1 = nI (dT D 2 n) ∧ tI σ (dT D 0 n) 2 = nI (dT D 3 n) ∧ tI σ (dT D 0 n) 3 = nI (dT D 4 n)) ∧
  (tA σ (dT D 0 n) 4 = some (dT D 5 n) ∧ tA σ (dT D 0 n) 5 = some (dT D 6 n) ∧ tA σ (dT D 0 n) 6 = some (dT D 7 n) ∧ tA σ (dT D 0 n) 7 = if n = dH D then none else some (dT D 0 (n + 1))) ∧
  (∀ f, dT D f n < 2147483648 ∨ f = 0 ∨ f = 5 ∨ f = 6 ∨ f = 7) ∧
  (∀ k, k < dT D 8 n → (tI σ (dT D 5 n) k = nI (dX D 0 n k) ∧ dX D 0 n k < 2034) ∧ tA σ (dT D 6 n) k = some (dX D 1 n k) ∧ isRow b0 σ (dX D 1 n k) (dW D (dX D 1 n k)) ∧ pl (dX D 1 n k) = (1000 + n, k)) ∧
  (∀ k, k < dT D 9 n → tI σ (dT D 7 n) k = nI (dX D 2 n k) ∧ dX D 2 n k < 2034)
def DY (b0 : Nat) (σ : tM) (D : tD) (pl : Nat → Nat × Nat) : Prop :=
  (∀ o j, isP o j → tA σ (b0 + o) j = dP D o j ∧ ∀ a, dP D o j = some a → isRow b0 σ a (dW D a) ∧ pl a = (o, j)) ∧
  (tA σ (b0 + 20) 7 = (if dN D = 0 then none else some (dS D (dN D - 1))) ∧ ∀ k, k < dN D → isRow b0 σ (dS D k) (dW D (dS D k)) ∧ pl (dS D k) = (100, k) ∧ tA σ (dS D k) 1 = (if k = 0 then none else some (dS D (k - 1)))) ∧
  (dL D ≤ dH D ∧ dH D < 2147483648 ∧ tA σ (b0 + 20) 5 = (if dL D = dH D then none else some (dT D 0 (dL D + 1))) ∧ tA σ (b0 + 20) 6 = (if dL D = dH D then none else some (dT D 0 (dH D)))) ∧
  (∀ n, dL D < n → n ≤ dH D → isTx b0 σ D pl n)
/-- where the reference's cells lie -/
def rfO (b0 : Nat) (σ : tM) : Prop := ∀ a, refO b0 σ a → b0 + 35 ≤ a ∧ a ≠ b0 + 73 ∧ a < b0 + tn σ
def CM (b0 : Nat) (σ : tM) (C : Nat → Nat → Nat) (D : tD) : Prop := CA b0 σ C ∧ rfO b0 σ ∧ (tu σ ≤ dE D + psi b0 σ ∧ 64 * tn σ ≤ 64 * dO D + psi b0 σ) ∧ ∃ pl, DY b0 σ D pl
/-- the class's frame: the reference's cells and the law's stay -/
def FC (b0 : Nat) (σ τ : tM) : Prop := tn σ ≤ tn τ ∧ tu σ ≤ tu τ ∧ (∀ a, refO b0 σ a ∨ a = b0 + 73 → same σ τ a)
section CMS
variable {b0 fu : Nat} {σ τ : tM} {A B U : tS} {C : Nat → Nat → Nat} {D : tD} {N N' K K' : Nat} {J : tJ} {pl : Nat → Nat × Nat}
theorem FC_ref (h : FC b0 σ τ) (a : Nat) : refO b0 τ a ↔ refO b0 σ a := by
  have h35 := (h.2.2 (b0 + 35) (Or.inl (refO_f 35 (by omega) (by omega)))).2.2.2
  unfold refO
  rw [h35]
theorem FC_good (b0 : Nat) : goodF (FC b0) := by
  refine ⟨fun σ => ⟨Nat.le_refl _, Nat.le_refl _, fun a _ => same_r σ a⟩, fun σ τ ρ h k => ?_, fun σ τ h => ⟨h.1, h.2.1⟩⟩
  refine ⟨Nat.le_trans h.1 k.1, Nat.le_trans h.2.1 k.2.1, fun a ha => same_t (h.2.2 a ha) (k.2.2 a ?_)⟩
  rcases ha with q | q
  · exact Or.inl ((FC_ref h a).mpr q)
  · exact Or.inr q
theorem FC_psi (h : FC b0 σ τ) : psi b0 τ = psi b0 σ := by
  have h35 := (h.2.2 (b0 + 35) (Or.inl (refO_f 35 (by omega) (by omega)))).2.2.2
  have hl : ∀ f, isD f = true → lenD b0 τ f = lenD b0 σ f := by
    intro f hf
    unfold lenD
    rw [h35]
    cases e : tA σ (b0 + 35) f with
    | none => rfl
    | some a =>
      have := (h.2.2 a (Or.inl (refO_d f hf e))).1
      simp only [this]
  unfold psi
  rw [hl 2 rfl, hl 3 rfl, hl 37 rfl, hl 38 rfl, hl 39 rfl, hl 40 rfl, hl 41 rfl, hl 42 rfl, hl 43 rfl, hl 44 rfl]
/-- what the class does leaves the reference's memory -/
theorem RM_FC (h : RM b0 J σ A N) (hf : FC b0 σ τ) : RM b0 J τ A N := by
  obtain ⟨hr, hT, ad, ln, U, un, hd, hl, hb, hu, hm⟩ := h
  have h35 := hf.2.2 (b0 + 35) (Or.inl (refO_f 35 (by omega) (by omega)))
  have hk : ∀ o, 35 ≤ o → o ≤ 72 → same σ τ (b0 + o) := fun o h1 h2 => hf.2.2 _ (Or.inl (refO_f o h1 h2))
  have hL : LayR b0 τ := by
    have hL := hr.1
    unfold LayR at hL ⊢
    have e61 := (hk 61 (by omega) (by omega)).2.2.2
    rw [h35.2.2.2, e61]
    obtain ⟨w0, w1⟩ := hL
    refine ⟨Nat.le_trans w0 hf.1, ?_⟩
    rw [(hk 35 (by omega) (by omega)).1, (hk 36 (by omega) (by omega)).1, (hk 39 (by omega) (by omega)).1, (hk 40 (by omega) (by omega)).1, (hk 41 (by omega) (by omega)).1, (hk 42 (by omega) (by omega)).1, (hk 43 (by omega) (by omega)).1, (hk 44 (by omega) (by omega)).1, (hk 45 (by omega) (by omega)).1, (hk 46 (by omega) (by omega)).1, (hk 47 (by omega) (by omega)).1, (hk 48 (by omega) (by omega)).1, (hk 49 (by omega) (by omega)).1, (hk 50 (by omega) (by omega)).1, (hk 51 (by omega) (by omega)).1, (hk 52 (by omega) (by omega)).1, (hk 61 (by omega) (by omega)).1, (hk 62 (by omega) (by omega)).1, (hk 63 (by omega) (by omega)).1, (hk 64 (by omega) (by omega)).1, (hk 65 (by omega) (by omega)).1, (hk 66 (by omega) (by omega)).1, (hk 67 (by omega) (by omega)).1, (hk 68 (by omega) (by omega)).1, (hk 69 (by omega) (by omega)).1, (hk 70 (by omega) (by omega)).1, (hk 71 (by omega) (by omega)).1, (hk 72 (by omega) (by omega)).1]
    exact w1
  have hra : RA b0 τ A := by
    refine RA_same hr hL (fun o j e => ?_)
    have l1 := isA_lt e
    have l2 : 35 ≤ o := by
      refine Classical.byContradiction (fun q => ?_)
      unfold isA at e
      split at e <;> first | omega | cases e
    rw [(hk o l2 (by omega)).2.1]
  refine ⟨hra, hT, ad, ln, U, un, ⟨fun f hf2 => ?_, hd.2.1, ?_, ?_⟩, hl, hb, hu, hm⟩
  · obtain ⟨a1, a2, a3, a4, a5, a6, a7, a8⟩ := hd.1 f hf2
    have s := hf.2.2 (ad f) (Or.inl (refO_d f hf2 a1))
    refine ⟨by rw [h35.2.2.2]; exact a1, by rw [s.1]; exact a2, Nat.lt_of_lt_of_le a3 (by have := hf.1; omega), a4, a5, a6, a7, fun i hi => ?_⟩
    rw [s.2.1]
    exact a8 i hi
  · rw [h35.2.1]
    exact hd.2.2.1
  · rw [h35.2.2.2]
    exact hd.2.2.2
theorem RM_rfb0 (h : RM b0 J σ A N) : ∀ a, refO b0 σ a → a < b0 + tn σ := by
  intro a ha
  have h74 := h.ra.lay.1
  obtain ⟨hr, hT, ad, ln, U, un, hd, -⟩ := h
  rcases ha with ⟨q1, q2⟩ | ⟨f, hf, e⟩
  · omega
  · obtain ⟨a1, -, a3, -⟩ := hd.1 f hf
    rw [a1] at e
    cases e
    exact a3
theorem isRow_same {a : Nat} {w : Nat → Nat} (h : isRow b0 σ a w) (hn : tn σ ≤ tn τ) (hs : same σ τ a ∧ same σ τ (a + 1)) (hr : ¬ refO b0 τ a ∧ ¬ refO b0 τ (a + 1)) : isRow b0 τ a w := by
  obtain ⟨r1, r2, r3, r4, r5, r6⟩ := h
  exact ⟨by rw [hs.1.1]; exact r1, by rw [hs.2.1]; exact r2, by rw [hs.1.2.2.2]; exact r3, ⟨r4.1, by omega, r4.2.2⟩, hr, fun j => by rw [hs.2.2.2.1]; exact r6 j⟩
/-- a memory that has the same objects of the class's -/
theorem DY_same (h : DY b0 σ D pl) (hn : tn σ ≤ tn τ) (hr : ∀ a, a < b0 + tn σ → refO b0 τ a → refO b0 σ a) (hP : ∀ o j, isP o j → tA τ (b0 + o) j = tA σ (b0 + o) j) (h20 : tA τ (b0 + 20) 5 = tA σ (b0 + 20) 5 ∧ tA τ (b0 + 20) 6 = tA σ (b0 + 20) 6 ∧ tA τ (b0 + 20) 7 = tA σ (b0 + 20) 7) (hs : ∀ a, b0 + 33 ≤ a → a < b0 + tn σ → a ≠ b0 + 73 → ¬ refO b0 σ a → same σ τ a) : DY b0 τ D pl := by
  have row : ∀ a w, isRow b0 σ a w → isRow b0 τ a w := by
    intro a w q
    have q4 := q.2.2.2.1
    have q5 := q.2.2.2.2.1
    exact isRow_same q hn ⟨hs a q4.1 (by omega) q4.2.2.1 q5.1, hs (a + 1) (by omega) q4.2.1 q4.2.2.2 q5.2⟩ ⟨fun r => q5.1 (hr a (by omega) r), fun r => q5.2 (hr (a + 1) q4.2.1 r)⟩
  obtain ⟨h1, ⟨h2, h3⟩, ⟨h4, h5, h6, h7⟩, h8⟩ := h
  refine ⟨fun o j q => ?_, ⟨by rw [h20.2.2]; exact h2, fun k hk => ?_⟩, ⟨h4, h5, by rw [h20.1]; exact h6, by rw [h20.2.1]; exact h7⟩, fun n q1 q2 => ?_⟩
  · obtain ⟨a1, a2⟩ := h1 o j q
    exact ⟨by rw [hP o j q]; exact a1, fun a e => ⟨row _ _ (a2 a e).1, (a2 a e).2⟩⟩
  · obtain ⟨a1, a2, a3⟩ := h3 k hk
    have s := hs (dS D k) a1.2.2.2.1.1 (by have := a1.2.2.2.1.2.1; omega) a1.2.2.2.1.2.2.1 a1.2.2.2.2.1.1
    exact ⟨row _ _ a1, a2, by rw [s.2.2.2]; exact a3⟩
  · obtain ⟨k1, k2, k3, k4, k5, k6, k7⟩ := h8 n q1 q2
    have so : ∀ a, isO b0 σ a → same σ τ a := fun a q => hs a q.1 q.2.1 q.2.2.1 q.2.2.2
    have io : ∀ a, isO b0 σ a → isO b0 τ a := fun a q => ⟨q.1, by have := q.2.1; omega, q.2.2.1, fun r => q.2.2.2 (hr a q.2.1 r)⟩
    have s0 := so _ k2.1
    have s5 := so _ k2.2.1
    have s6 := so _ k2.2.2.1
    have s7 := so _ k2.2.2.2
    unfold isTx
    rw [s0.1, s5.1, s6.1, s7.1, s0.2.1, s0.2.2.2, s5.2.1, s6.2.2.2, s7.2.1]
    exact ⟨k1, ⟨io _ k2.1, io _ k2.2.1, io _ k2.2.2.1, io _ k2.2.2.2⟩, k3, k4, k5, fun k hk => ⟨(k6 k hk).1, (k6 k hk).2.1, row _ _ (k6 k hk).2.2.1, (k6 k hk).2.2.2⟩, k7⟩
theorem layC_33 (h : LayC b0 σ) (hn : tn σ ≤ tn τ) (hs : ∀ o, o < 33 → same σ τ (b0 + o)) : LayC b0 τ := by
  unfold LayC at h ⊢
  obtain ⟨w0, w1⟩ := h
  refine ⟨Nat.le_trans w0 hn, ?_⟩
  rw [(hs 0 (by omega)).1, (hs 1 (by omega)).1, (hs 2 (by omega)).1, (hs 3 (by omega)).1, (hs 4 (by omega)).1, (hs 5 (by omega)).1, (hs 6 (by omega)).1, (hs 7 (by omega)).1, (hs 8 (by omega)).1, (hs 9 (by omega)).1, (hs 10 (by omega)).1, (hs 11 (by omega)).1, (hs 12 (by omega)).1, (hs 13 (by omega)).1, (hs 14 (by omega)).1, (hs 15 (by omega)).1, (hs 16 (by omega)).1, (hs 17 (by omega)).1, (hs 18 (by omega)).1, (hs 19 (by omega)).1, (hs 20 (by omega)).1, (hs 21 (by omega)).1, (hs 22 (by omega)).1, (hs 23 (by omega)).1, (hs 24 (by omega)).1, (hs 25 (by omega)).1, (hs 26 (by omega)).1, (hs 27 (by omega)).1, (hs 28 (by omega)).1, (hs 29 (by omega)).1, (hs 30 (by omega)).1, (hs 31 (by omega)).1, (hs 32 (by omega)).1,
    (hs 0 (by omega)).2.2.2, (hs 1 (by omega)).2.2.2, (hs 10 (by omega)).2.2.2, (hs 18 (by omega)).2.2.2, (hs 20 (by omega)).2.2.2, (hs 23 (by omega)).2.2.2, (hs 24 (by omega)).2.2.2, (hs 26 (by omega)).2.2.2, (hs 28 (by omega)).2.2.2, (hs 30 (by omega)).2.2.2]
  exact w1
theorem RM_lo (h : RM b0 J σ A N) {a : Nat} (ha : refO b0 σ a) : b0 + 35 ≤ a ∧ a ≠ b0 + 73 := by
  obtain ⟨hr, hT, ad, ln, U, un, hd, -⟩ := h
  rcases ha with ⟨q1, q2⟩ | ⟨f, hf, e⟩
  · omega
  · obtain ⟨a1, -, a3, a4, -⟩ := hd.1 f hf
    rw [a1] at e
    cases e
    rcases a4 with q | q
    · omega
    · have : 37 ≤ inD f ∧ inD f ≤ 60 := by
        rcases isD_of hf with rfl | rfl | ⟨q1, q2⟩
        · decide
        · decide
        · unfold inD
          rw [if_neg (by omega)]
          omega
      omega
theorem RM_rfb (h : RM b0 J σ A N) : rfO b0 σ := fun a ha => ⟨(RM_lo h ha).1, (RM_lo h ha).2, RM_rfb0 h a ha⟩
/-- what the reference does leaves the class's memory -/
theorem CM_FR (h : CM b0 σ C D) (hm : RM b0 J σ A N) (hf : FR b0 σ τ) {J' : tJ} {A' : tS} {N' : Nat} (hm' : RM b0 J' τ A' N') : CM b0 τ C D := by
  obtain ⟨h1, h2, ⟨h3, h4⟩, pl, h5⟩ := h
  obtain ⟨f1, f2, f3, f4, f5, f6⟩ := hf
  have h74 := h1.lay.1
  have s33 : ∀ o, o < 33 → same σ τ (b0 + o) := by
    intro o ho
    refine f5 _ (by omega) (fun q => ?_)
    have := (RM_lo hm q).1
    omega
  refine ⟨CA_same h1 (layC_33 h1.lay f1 s33) (fun o ho => (s33 o ho).2.1) (s33 11 (by omega)).2.2.1, RM_rfb hm', ⟨by omega, by omega⟩, pl, ?_⟩
  refine DY_same h5 f1 (fun a ha q => ?_) (fun o j q => ?_) ?_ (fun a q1 q2 q3 q4 => f5 a q2 q4)
  · rcases f6 a q with r | r
    · exact r
    · omega
  · rw [(s33 o (by rcases q with q | q | q <;> omega)).2.2.2]
  · rw [(s33 20 (by omega)).2.2.2]
    exact ⟨rfl, rfl, rfl⟩
/-- a place in a fixed cell of the class's -/
theorem CM_fix (h : CM b0 σ C D) {o j x : Nat} {v : Int32} (ho : isC o j = true) (hv : v = decC o j x) (hx : x < bndC o) : CM b0 (sI σ (b0 + o) j v) (up2 C o j x) D := by
  obtain ⟨h1, h2, h3, pl, h5⟩ := h
  have l := isC_lt ho
  have n11 : o ≠ 11 := fun e => by subst e; cases ho
  refine ⟨CA_up h1 n11 hv hx, h2, h3, pl, DY_same h5 (Nat.le_refl _) (fun a _ q => q) (fun _ _ _ => rfl) ⟨rfl, rfl, rfl⟩ (fun a q1 _ _ _ => same_sI (by omega))⟩
theorem CM_fixL (h : CM b0 σ C D) {j x : Nat} (hx : x < 18446744073709551616) : CM b0 (sL σ (b0 + 11) j (lN x)) (up2 C 11 j x) D := by
  obtain ⟨h1, h2, h3, pl, h5⟩ := h
  refine ⟨CA_upL h1 hx, h2, h3, pl, DY_same h5 (Nat.le_refl _) (fun a _ q => q) (fun _ _ _ => rfl) ⟨rfl, rfl, rfl⟩ (fun a q1 _ _ _ => same_sL (by omega))⟩
theorem FC_sI {o j : Nat} {v : Int32} (h : rfO b0 σ) (ho : o < 35) : FC b0 σ (sI σ (b0 + o) j v) := ⟨Nat.le_refl _, Nat.le_refl _, fun a ha => same_sI (fun e => by
  rcases ha with q | q
  · have := (h a q).1; omega
  · omega)⟩
theorem FC_sL {o j : Nat} {v : Int64} (h : rfO b0 σ) (ho : o < 35) : FC b0 σ (sL σ (b0 + o) j v) := ⟨Nat.le_refl _, Nat.le_refl _, fun a ha => same_sL (fun e => by
  rcases ha with q | q
  · have := (h a q).1; omega
  · omega)⟩
theorem FC_sA {o j : Nat} {v : Option Nat} (h : rfO b0 σ) (ho : o < 35) : FC b0 σ (sA σ (b0 + o) j v) := ⟨Nat.le_refl _, Nat.le_refl _, fun a ha => same_sA (fun e => by
  rcases ha with q | q
  · have := (h a q).1; omega
  · omega)⟩
theorem FC_rf (h : FC b0 σ τ) (hr : rfO b0 σ) : rfO b0 τ := fun a ha => by
  have := hr a ((FC_ref h a).mp ha)
  have := h.1
  omega
theorem CM.ca (h : CM b0 σ C D) : CA b0 σ C := h.1
theorem CM.lay (h : CM b0 σ C D) : LayC b0 σ := h.1.1
theorem CM.rf (h : CM b0 σ C D) : rfO b0 σ := h.2.1
end CMS
