/-! ===== PURE: the law's loop, its room ===== -/
def sE : Nat → Nat
  | 0 => 0
  | t + 1 => sE t + eT t
def sO : Nat → Nat
  | 0 => 0
  | t + 1 => sO t + oT t
def endP (b0 : Nat) (σ : tM) (e0 o0 : Nat) (x : Option (Int32 × tM)) : Prop := ∃ t' τ, t' ≤ 64 ∧ x = some (1, τ) ∧ (tn σ ≤ tn τ ∧ tu σ ≤ tu τ) ∧ INV b0 t' τ (e0 + sE t') (o0 + sO t')
section LOO
variable {b0 fu L : Nat} {σ τ : tM} {xs : Nat → Int32} {e0 o0 eb ob t : Nat}
theorem gd_lt {a : Nat} (hL : L ≤ 384) (ha : a < 1000) : (Int32.ofNat L - 6 < nI a) ↔ L < a + 6 := by
  have e : Int32.ofNat L = nI L := rfl
  have e6 : (6 : Int32).toInt = 6 := by decide
  rw [e, Int32.lt_iff_toInt_lt, Int32.toInt_sub, nI_toInt (by omega), nI_toInt (by omega), e6, Int.bmod_eq_of_le (by omega) (by omega)]
  omega
theorem INV_suc (h : INV b0 t σ eb ob) : INV b0 (t + 1) σ (eb + eT t) (ob + oT t) := by
  obtain ⟨C, D, A, J, N, bi, sp, w, i1, i2, i3, i4, i5, i6, i7⟩ := h
  exact ⟨C, D, A, J, N, bi, sp, w, i1, i2, i3, ST_suc i4, bv_suc i5, by omega, by omega⟩
theorem loop (hL : L ≤ 384) (hu : 1200000 ≤ fu) : ∀ m t n σ, t + m = 64 → m < n → INV b0 t σ (e0 + sE t) (o0 + sO t) → endP b0 σ e0 o0 (L_L_law_23 b0 fu L xs n (b0 + 0) (b0 + 35) (b0 + 73) (nI (6 * t)) σ) := by
  intro m
  induction m with
  | zero =>
    intro t n σ ht hn hI
    obtain ⟨n, rfl⟩ : ∃ g, n = g + 1 := ⟨n - 1, by omega⟩
    unfold L_L_law_23
    rw [ltb_def, if_pos ((gd_lt hL (by omega)).mpr (by omega))]
    exact ⟨t, σ, by omega, rfl, ⟨Nat.le_refl _, Nat.le_refl _⟩, hI⟩
  | succ m ih =>
    intro t n σ ht hn hI
    obtain ⟨n, rfl⟩ : ∃ g, n = g + 1 := ⟨n - 1, by omega⟩
    unfold L_L_law_23
    rw [ltb_def]
    by_cases g : L < 6 * t + 6
    · rw [if_pos ((gd_lt hL (by omega)).mpr g)]
      exact ⟨t, σ, by omega, rfl, ⟨Nat.le_refl _, Nat.le_refl _⟩, hI⟩
    rw [if_neg (fun y => g ((gd_lt hL (by omega)).mp y))]
    have gi : ∀ i, i ≤ 5 → ∀ k : Option (Int32 × tM), ckI (nI (6 * t) + nI i) L k = k := fun i hi k => by
      rw [nI_add]
      exact ckI_n (by omega) (by omega)
    have g1 : ∀ k : Option (Int32 × tM), ckI (nI (6 * t) + 1) L k = k := gi 1 (by omega)
    have g2 : ∀ k : Option (Int32 × tM), ckI (nI (6 * t) + 2) L k = k := gi 2 (by omega)
    have g3 : ∀ k : Option (Int32 × tM), ckI (nI (6 * t) + 3) L k = k := gi 3 (by omega)
    have g4 : ∀ k : Option (Int32 × tM), ckI (nI (6 * t) + 4) L k = k := gi 4 (by omega)
    have g5 : ∀ k : Option (Int32 × tM), ckI (nI (6 * t) + 5) L k = k := gi 5 (by omega)
    rw [ckI_n (by omega) (by omega), ltb_def]
    generalize xs ((nI (6 * t)).toNatClampNeg) &&& (63 : Int32) = y
    have fin : ∀ {X : Option (Int32 × tM)}, (∃ ρ, X = J_L_law_2051 b0 fu L xs (L_L_law_23 b0 fu L xs n) (b0 + 0) (b0 + 35) (b0 + 73) (nI (6 * t)) ρ ∧ (tn σ ≤ tn ρ ∧ tu σ ≤ tu ρ) ∧ INV b0 (t + 1) ρ (e0 + sE t + eT t) (o0 + sO t + oT t)) → endP b0 σ e0 o0 X := by
      rintro X ⟨ρ, e, ⟨r1, r2⟩, i⟩
      rw [e]
      unfold J_L_law_2051
      have e6 : nI (6 * t) + Int32.ofInt 6 = nI (6 * (t + 1)) := nI_add (6 * t) 6
      rw [ltb_def, e6]
      rw [Nat.add_assoc, Nat.add_assoc] at i
      obtain ⟨t', τ, q1, q2, ⟨q3, q4⟩, q5⟩ := ih (t + 1) n ρ (by omega) (by omega) i
      exact ⟨t', τ, q1, q2, ⟨Nat.le_trans r1 q3, Nat.le_trans r2 q4⟩, q5⟩
    by_cases c : y = 0
    · rw [if_pos c]
      exact fin (law_196 g1 g2 (by omega) hu hI)
    rw [if_neg c]
    clear c
    by_cases c : y = 1
    · rw [if_pos c]
      exact fin (law_233 g1 g2 g3 g4 g5 hu hI)
    rw [if_neg c]
    clear c
    by_cases c : y = 2
    · rw [if_pos c]
      exact fin (law_306 g1 g2 hu hI)
    rw [if_neg c]
    clear c
    by_cases c : y = 3
    · rw [if_pos c]
      exact fin (law_343 (by omega) hu hI)
    rw [if_neg c]
    clear c
    by_cases c : y = 4
    · rw [if_pos c]
      exact fin (law_387 (by omega) hu hI)
    rw [if_neg c]
    clear c
    by_cases c : y = 5
    · rw [if_pos c]
      exact fin (law_431 (by omega) hu hI)
    rw [if_neg c]
    clear c
    by_cases c : y = 6
    · rw [if_pos c]
      exact fin (law_475 (by omega) hu hI)
    rw [if_neg c]
    clear c
    by_cases c : y = 7
    · rw [if_pos c]
      exact fin (law_519 (by omega) hu hI)
    rw [if_neg c]
    clear c
    by_cases c : y = 8
    · rw [if_pos c]
      exact fin (law_563 (by omega) hu hI)
    rw [if_neg c]
    clear c
    by_cases c : y = 9
    · rw [if_pos c]
      exact fin (law_607 (by omega) hu hI)
    rw [if_neg c]
    clear c
    by_cases c : y = 10
    · rw [if_pos c]
      exact fin (law_651 (by omega) hu hI)
    rw [if_neg c]
    clear c
    by_cases c : y = 11
    · rw [if_pos c]
      exact fin (law_695 g1 (by omega) hu hI)
    rw [if_neg c]
    clear c
    by_cases c : y = 12
    · rw [if_pos c]
      exact fin (law_751 g1 g2 g3 (by omega) hu hI)
    rw [if_neg c]
    clear c
    by_cases c : y = 13
    · rw [if_pos c]
      exact fin (law_831 g1 g2 g3 g4 (by omega) hu hI)
    rw [if_neg c]
    clear c
    by_cases c : y = 14
    · rw [if_pos c]
      exact fin (law_923 g1 g2 (by omega) hu hI)
    rw [if_neg c]
    clear c
    by_cases c : y = 15
    · rw [if_pos c]
      exact fin (law_991 g1 g2 (by omega) hu hI)
    rw [if_neg c]
    clear c
    by_cases c : y = 16
    · rw [if_pos c]
      exact fin (law_1059 g1 g2 g3 (by omega) hu hI)
    rw [if_neg c]
    clear c
    by_cases c : y = 17
    · rw [if_pos c]
      exact fin (law_1138 g1 g2 (by omega) hu hI)
    rw [if_neg c]
    clear c
    by_cases c : y = 18
    · rw [if_pos c]
      exact fin (law_1222 g1 g2 (by omega) hu hI)
    rw [if_neg c]
    clear c
    by_cases c : y = 19
    · rw [if_pos c]
      exact fin (law_1290 g1 g2 (by omega) hu hI)
    rw [if_neg c]
    clear c
    by_cases c : y = 20
    · rw [if_pos c]
      exact fin (law_1358 g1 (by omega) hu hI)
    rw [if_neg c]
    clear c
    by_cases c : y = 21
    · rw [if_pos c]
      exact fin (law_1414 g1 g2 (by omega) hu hI)
    rw [if_neg c]
    clear c
    by_cases c : y = 22
    · rw [if_pos c]
      exact fin (law_1482 g1 (by omega) hu hI)
    rw [if_neg c]
    clear c
    by_cases c : y = 23
    · rw [if_pos c]
      exact fin (law_1538 g1 (by omega) hu hI)
    rw [if_neg c]
    clear c
    by_cases c : y = 24
    · rw [if_pos c]
      exact fin (law_1594 (by omega) hu hI)
    rw [if_neg c]
    clear c
    by_cases c : y = 25
    · rw [if_pos c]
      exact fin (law_1638 (by omega) hu hI)
    rw [if_neg c]
    clear c
    by_cases c : y = 26
    · rw [if_pos c]
      exact fin (law_1682 g1 (by omega) hu hI)
    rw [if_neg c]
    clear c
    by_cases c : y = 27
    · rw [if_pos c]
      exact fin (law_1738 g1 (by omega) hu hI)
    rw [if_neg c]
    clear c
    by_cases c : y = 28
    · rw [if_pos c]
      exact fin (law_1794 g1 hu hI)
    rw [if_neg c]
    clear c
    by_cases c : y = 29
    · rw [if_pos c]
      exact fin (law_1819 hu hI)
    rw [if_neg c]
    clear c
    by_cases c : y = 30
    · rw [if_pos c]
      exact fin (law_1863 g1 g2 hu hI)
    rw [if_neg c]
    clear c
    by_cases c : y = 31
    · rw [if_pos c]
      exact fin (law_1900 g1 g2 hu hI)
    rw [if_neg c]
    clear c
    by_cases c : y = 32
    · rw [if_pos c]
      exact fin (law_1957 (by omega) hu hI)
    rw [if_neg c]
    clear c
    by_cases c : y = 33
    · rw [if_pos c]
      exact fin (law_2001 g1 hu hI)
    rw [if_neg c]
    clear c
    by_cases c : y = 34
    · rw [if_pos c]
      exact fin (law_2026 g1 hu hI)
    rw [if_neg c]
    clear c
    exact fin ⟨σ, rfl, ⟨Nat.le_refl _, Nat.le_refl _⟩, INV_suc hI⟩
theorem sE_le : ∀ t, sE t ≤ 2154 * t + 460 * (t * t)
  | 0 => Nat.zero_le _
  | t + 1 => by
    have := sE_le t
    have e : (t + 1) * (t + 1) = t * t + 2 * t + 1 := by
      rw [Nat.add_mul, Nat.mul_add]
      omega
    have s : sE (t + 1) = sE t + eT t := rfl
    unfold eT at s
    rw [e, s]
    omega
theorem sO_le : ∀ t, sO t ≤ 85 * t + 20 * (t * t)
  | 0 => Nat.zero_le _
  | t + 1 => by
    have := sO_le t
    have e : (t + 1) * (t + 1) = t * t + 2 * t + 1 := by
      rw [Nat.add_mul, Nat.mul_add]
      omega
    have s : sO (t + 1) = sO t + oT t := rfl
    unfold oT at s
    rw [e, s]
    omega
theorem lenD_e {f a n : Nat} (h1 : tA τ (b0 + 35) f = some a) (h2 : tk τ a = .inr (0, n)) : lenD b0 τ f = n := by
  unfold lenD
  rw [h1]
  show (match tk τ a with | .inr q => q.2 | .inl _ => 0) = n
  rw [h2]
theorem room (ht : t ≤ 64) (h : INV b0 t τ (1824599 + sE t) (74 + sO t)) : tn τ ≤ 600128 ∧ tu τ ≤ 7301098 := by
  obtain ⟨C, D, A, J, N, bi, sp, w, i1, i2, i3, i4, i5, i6, i7⟩ := h
  have a1 := sE_le t
  have a2 := sO_le t
  have tt : t * t ≤ 64 * 64 := Nat.mul_le_mul ht ht
  have kp : kpn D ≤ 6386 := by
    unfold kpn
    have := cn_le (fun b => (dP D 3 b).isSome) 6130 0
    have := cn_le (fun s => (dP D 8 s).isSome) 256 0
    omega
  obtain ⟨-, -, ad, ln, U, un, ⟨d1, -⟩, ⟨l1, l2⟩, l3, -⟩ := i3
  have ps : psi b0 τ ≤ 1573760 := by
    unfold psi
    have e : ∀ f, isD f = true → lenD b0 τ f = ln f := fun f hf => lenD_e (d1 f hf).1 (d1 f hf).2.1
    rw [e 2 rfl, e 3 rfl, e 37 rfl, e 38 rfl, e 39 rfl, e 40 rfl, e 41 rfl, e 42 rfl, e 43 rfl, e 44 rfl, ← l1, l2 37 (by omega) (by omega), l2 38 (by omega) (by omega), l2 39 (by omega) (by omega), l2 40 (by omega) (by omega), l2 41 (by omega) (by omega), l2 42 (by omega) (by omega), l2 43 (by omega) (by omega)]
    have := (d1 44 rfl).2.2.2.2.2.1
    omega
  obtain ⟨r1, r2⟩ := i2.2.2.1
  generalize t * t = z at *
  omega
theorem law_all {σ0 : tM} (h0 : tn σ0 = 0) (h1 : tu σ0 = 0) (b0 L : Nat) (xs : Nat → Int32) (hL : L ≤ 384) : ∃ (fu : Nat) (τ : tM), m_L_law b0 fu L xs σ0 = some (1, τ) ∧ tn τ ≤ 600128 ∧ tu τ ≤ 7301098 := by
  obtain ⟨ρ, e, i⟩ := start (b0 := b0) (fu := 1200000) (Nat.le_refl _) h0 h1 L xs
  have i' : INV b0 0 ρ (1824599 + sE 0) (74 + sO 0) := by
    rw [show sE 0 = 0 from rfl, show sO 0 = 0 from rfl]
    exact i
  obtain ⟨t, τ, q1, q2, q3, q4⟩ := loop (b0 := b0) (fu := 1200000) (xs := xs) (e0 := 1824599) (o0 := 74) hL (Nat.le_refl _) 64 0 1200000 ρ rfl (by omega) i'
  refine ⟨1200000, τ, ?_, room q1 q4⟩
  rw [e, show L_L_law_23 b0 1200000 L xs 1200000 (b0 + 0) (b0 + 35) (b0 + 73) 0 ρ = some (1, τ) from q2]
  exact grw_p rfl (by rw [h0]; exact Nat.zero_le _) (by rw [h1]; exact Nat.zero_le _)
end LOO
