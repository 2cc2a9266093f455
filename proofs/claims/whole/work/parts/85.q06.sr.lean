/-! ===== PURE: the class's memory and the reference's, side by side ===== -/
def us (A : tS) (r : Nat) : Prop := A 36 (6080 + r * 274) ≠ 0
def se (A : tS) (r : Nat) : Nat := A 36 (6080 + r * 274 + 1)
def eZ (A : tS) (r k w : Nat) : Nat := A 36 (6080 + r * 274 + (34 + k * 30 + w))
/-- a pointer as the class keeps it -/
def pv (bi : Nat → Nat) (A : tS) (x : Nat) : Nat := if x = 0 then 0 else bi (se A (x - 1)) * 65536 + (33 + x)
/-- a node's places for blocks: its blocks, 2000 its table, 2001 its table of tables, 2100.. the tables in it -/
def vs (s : Nat) : Prop := s < 1064 ∨ s = 2000 ∨ s = 2001 ∨ (2100 ≤ s ∧ s < 2132)
def slo (A : tS) (n s : Nat) : Nat := if s = 2000 then nd A n 93 else if s = 2001 then nd A n 94 else if 2100 ≤ s then (if nd A n 94 = 0 then 0 else pt A (nd A n 94 - 1) (s - 2100)) else hasA A n s
/-- the tree's form: w tells where each block stands -/
def TI (w : Nat → Nat × Nat) (A : tS) : Prop :=
  (∀ r, r < 2000 → us A r → r < A 35 7 ∧ (w r).1 < 64 ∧ (nd A (w r).1 0 = 1 ∨ nd A (w r).1 0 = 2) ∧ vs (w r).2 ∧ slo A (w r).1 (w r).2 = r + 1) ∧
  (∀ n s r, n < 64 → vs s → slo A n s = r + 1 → r < 2000 ∧ us A r ∧ w r = (n, s)) ∧
  (∀ n, n < 64 → nd A n 0 ≠ 1 → nd A n 0 ≠ 2 → ∀ i, i < 10 → nd A n (85 + i) = 0) ∧
  (∀ r, r < 2000 → (us A r → (w r).2 < 2000) → ∀ k, k < 32 → pt A r k = 0) ∧
  (∀ r, r < 2000 → (us A r → (w r).2 < 2000 → nd A (w r).1 0 ≠ 2) → ∀ k, k < 8 → eZ A r k 0 = 64)
/-- an octet of a cell's words -/
def oW (W : Nat → Nat) (c i : Nat) : Nat := by8 (W (c * 32 + i / 8)) (i % 8)
/-- a node's words -/
def NW (bi W : Nat → Nat) (A : tS) (n : Nat) : Prop :=
  W (64 + n * 16) = (if nd A n 0 = 0 then 0 else hdV (nd A n 0) (nd A n 2) (nd A n 3) (if nd A n 0 = 3 then nd A n 4 else nd A n 1)) ∧
  (nd A n 0 = 3 → ∀ i, i < nd A n 4 → oW W (2 + n / 2) ((n % 2 * 16 + 1) * 8 + i) = nd A n (5 + i)) ∧
  (nd A n 0 ≠ 3 → ∀ i, i < 10 → W (64 + n * 16 + (1 + i)) = pv bi A (nd A n (85 + i))) ∧
  (nd A n 0 = 0 → ∀ i, i < 16 → W (64 + n * 16 + i) = 0)
/-- an entry's words -/
def EW (W : Nat → Nat) (A : tS) (r k : Nat) : Prop :=
  (eZ A r k 0 = 64 → ∀ i, i < 4 → W ((34 + r) * 32 + k * 4 + i) = 0) ∧
  (eZ A r k 0 ≠ 64 → oW W (34 + r) (k * 32 + 28) = eZ A r k 1 ∧ oW W (34 + r) (k * 32 + 29) = eZ A r k 0 ∧ ∀ i, i < eZ A r k 1 → oW W (34 + r) (k * 32 + i) = eZ A r k (2 + i))
/-- a block's words, where it is no block of a file -/
def BW (bi : Nat → Nat) (w : Nat → Nat × Nat) (W : Nat → Nat) (A : tS) (r : Nat) : Prop :=
  (2000 ≤ (w r).2 → ∀ k, k < 32 → W ((34 + r) * 32 + k) = pv bi A (pt A r k)) ∧
  ((w r).2 < 2000 → nd A (w r).1 0 = 2 → ∀ k, k < 8 → EW W A r k)
/-- META -/
def MR (bi : Nat → Nat) (w : Nat → Nat × Nat) (W : Nat → Nat) (A : tS) : Prop :=
  (∀ j, j < 32 → W j = 0) ∧ (∀ r, r < 2048 → W (32 + r / 64) / 2 ^ (r % 64) % 2 = if r < 2000 ∧ A 36 (6080 + r * 274) ≠ 0 then 1 else 0) ∧
  (∀ n, n < 64 → NW bi W A n) ∧ (∀ r, r < 2000 → us A r → BW bi w W A r)
/-- bytes of files -/
def FB (w : Nat → Nat × Nat) (W : Nat → Nat) (A : tS) : Prop := ∀ r, r < 2000 → us A r → (w r).2 < 2000 → nd A (w r).1 0 = 1 → bytR (fun k => W ((34 + r) * 32 + k)) (A 47) (256 * r)
/-- births against serials -/
def BJ (bi : Nat → Nat) (C A : tS) : Prop := (∀ x, bi x ≤ C 10 15 ∧ C 10 15 ≤ A 35 34) ∧ (∀ x, A 35 34 < x → bi x = 0) ∧ (∀ x y, bi x ≠ 0 → bi x = bi y → x = y) ∧ ∀ r, r < 2000 → us A r → bi (se A r) ≠ 0
def nbA (A : tS) (c : Nat) : Nat := if c < 34 then c else c + A 35 6
/-- marks and states -/
def ZM (bi : Nat → Nat) (w : Nat → Nat × Nat) (C A : tS) : Prop :=
  (C 10 7 = 34 + A 35 7 ∧ C 10 8 = A 35 6 ∧ C 10 16 = A 35 28 + 1 ∧ A 35 7 ≤ 2000 ∧ A 35 6 ≤ 4096) ∧
  (∀ r, r < A 35 7 → C 12 (34 + r) = if A 36 (6080 + r * 274) ≠ 0 then 0 else if A 49 r = 0 then 1 else if A 49 r = 1 then A 35 28 + 2 else A 49 r) ∧
  (∀ r, r < A 35 7 → us A r → C 13 (34 + r) = bi (se A r) ∧ C 14 (34 + r) = (w r).1 ∧ A 49 r = 0) ∧
  (∀ c, 1 ≤ c → c < 34 + A 35 7 → (C 15 c = 0 ↔ A 51 (nbA A c) = 0) ∧ (C 16 c = 0 ↔ A 52 (nbA A c) = 0)) ∧
  (∀ b, b = 0 ∨ (34 ≤ b ∧ b < 34 + A 35 6) ∨ (34 + A 35 6 + A 35 7 ≤ b ∧ b < 6200) → A 51 b = 0 ∧ A 52 b = 0) ∧
  (∀ r, r < A 35 7 → (C 17 (34 + r) = 0 ↔ A 48 r = 0)) ∧ (∀ c, c < 34 → C 17 c = 0) ∧ (∀ n, n < 64 → (C 19 n = 0 ↔ A 50 n = 0)) ∧ (∀ h, h < 16 → C 32 h = A 71 h) ∧ ∀ r, r < A 35 7 → A 48 r ≠ 0 → us A r
/-- what the last group left of META (a row that is only thought of: C 100) stands where nothing was touched since; what is revoked is retired -/
def GH (w : Nat → Nat × Nat) (C A : tS) : Prop :=
  (∀ c, 1 ≤ c → c < 34 → C 15 c = 0 → ∀ j, j < 32 → C 11 (c * 32 + j) = C 100 (c * 32 + j)) ∧
  (∀ r, r < 2000 → us A r → (2000 ≤ (w r).2 ∨ nd A (w r).1 0 = 2) → C 15 (34 + r) = 0 → ∀ j, j < 32 → C 11 ((34 + r) * 32 + j) = C 100 ((34 + r) * 32 + j)) ∧
  (∀ r, r < A 35 7 → C 16 (34 + r) ≠ 0 → A 49 r = 1) ∧ (∀ c, c < 34 → C 16 c = 0) ∧ (∀ r, r < A 35 7 → A 48 r ≠ 0 → (w r).2 < 2000 ∧ nd A (w r).1 0 = 1)
/-- all of memory, while there is power -/
def SR (bi : Nat → Nat) (w : Nat → Nat × Nat) (C A : tS) : Prop := rk3 C ∧ TI w A ∧ MR bi w (C 11) A ∧ FB w (C 11) A ∧ BJ bi C A ∧ ZM bi w C A ∧ okT A ∧ GH w C A
section SRS
variable {bi : Nat → Nat} {w : Nat → Nat × Nat} {C A : tS} {W : Nat → Nat}
theorem SR.rk (h : SR bi w C A) : rk3 C := h.1
theorem SR.ti (h : SR bi w C A) : TI w A := h.2.1
theorem SR.mr (h : SR bi w C A) : MR bi w (C 11) A := h.2.2.1
theorem SR.fb (h : SR bi w C A) : FB w (C 11) A := h.2.2.2.1
theorem SR.bj (h : SR bi w C A) : BJ bi C A := h.2.2.2.2.1
theorem SR.zm (h : SR bi w C A) : ZM bi w C A := h.2.2.2.2.2.1
theorem SR.ok (h : SR bi w C A) : okT A := h.2.2.2.2.2.2.1
theorem SR.gh (h : SR bi w C A) : GH w C A := h.2.2.2.2.2.2.2
theorem pv_mod {x : Nat} (hx : x ≤ 2000) : pv bi A x % 2048 = if x = 0 then 0 else 33 + x := by
  unfold pv
  split <;> omega
theorem pv_0 {x : Nat} : pv bi A x = 0 ↔ x = 0 := by
  unfold pv
  split <;> omega
theorem nd_k (h : okT A) {n : Nat} (hn : n < 64) : nd A n 0 < 4 ∧ nd A n 1 < 272385 ∧ nd A n 2 < 256 ∧ nd A n 3 < 64 ∧ nd A n 4 < 81 := by
  have q : ∀ i, i < 5 → nd A n i < bN i := fun i hi => by
    have := h (n * 95 + i)
    unfold bT at this
    rw [if_pos (by omega), show (n * 95 + i) % 95 = i by omega] at this
    exact this
  exact ⟨q 0 (by omega), q 1 (by omega), q 2 (by omega), q 3 (by omega), q 4 (by omega)⟩
theorem hd_parts {k na p s : Nat} (h1 : k < 256) (h2 : na < 256) (h3 : p < 256) : hdV k na p s % 256 = k ∧ hdV k na p s / 256 % 256 = na ∧ hdV k na p s / 65536 % 256 = p ∧ hdV k na p s / 4294967296 = s := by
  unfold hdV
  omega
/-- the parts of a node's header -/
theorem hd_c (h : okT A) (hM : MR bi w (C 11) A) {n : Nat} (hn : n < 64) : kiC C n = nd A n 0 ∧ (nd A n 0 ≠ 0 → naC C n = nd A n 2 ∧ prC C n = nd A n 3 ∧ szC C n = if nd A n 0 = 3 then nd A n 4 else nd A n 1) := by
  obtain ⟨q, -⟩ := hM.2.2.1 n hn
  obtain ⟨b0, b1, b2, b3, b4⟩ := nd_k h hn
  have e : nwC C n 0 = C 11 (64 + n * 16) := rfl
  unfold kiC naC prC szC
  rw [e, q]
  by_cases c : nd A n 0 = 0
  · rw [if_pos c]
    exact ⟨by omega, fun r => absurd c r⟩
  · rw [if_neg c]
    obtain ⟨p1, p2, p3, p4⟩ := hd_parts (k := nd A n 0) (na := nd A n 2) (p := nd A n 3) (s := if nd A n 0 = 3 then nd A n 4 else nd A n 1) (by omega) (by omega) (by omega)
    exact ⟨p1, fun _ => ⟨p2, p3, p4⟩⟩
/-- the same blocks -/
theorem pt_c (h : okT A) (hT : TI w A) (hM : MR bi w (C 11) A) {n i : Nat} (hn : n < 64) (h3 : nd A n 0 ≠ 3) (hi : i < 1064) : ptC C n i = pv bi A (hasA A n i) ∧ (8 ≤ i → tbC C n i = pv bi A (leafA A n i)) ∧ nwC C n 9 = pv bi A (nd A n 93) ∧ nwC C n 10 = pv bi A (nd A n 94) := by
  obtain ⟨m1, m2, m3, m4⟩ := hM
  obtain ⟨-, -, q, -⟩ := m3 n hn
  have q := q h3
  have e9 : nwC C n 9 = pv bi A (nd A n 93) := q 8 (by omega)
  have e10 : nwC C n 10 = pv bi A (nd A n 94) := q 9 (by omega)
  have sl : ∀ s r, vs s → slo A n s = r + 1 → r < 2000 ∧ us A r ∧ w r = (n, s) := fun s r a b => hT.2.1 n s r hn a b
  -- the words of a table
  have tb : ∀ s x k, vs s → 2000 ≤ s → slo A n s = x → k < 32 → C 11 (pv bi A x % 2048 * 32 + k) = pv bi A (if x = 0 then 0 else pt A (x - 1) k) := by
    intro s x k h1 h2 h3 hk
    by_cases c : x = 0
    · subst c
      rw [if_pos rfl, show pv bi A 0 = 0 from rfl]
      show C 11 (0 % 2048 * 32 + k) = 0
      exact m1 _ (by omega)
    · obtain ⟨r, rfl⟩ : ∃ r, x = r + 1 := ⟨x - 1, by omega⟩
      obtain ⟨a1, a2, a3⟩ := sl s r h1 h3
      have := (m4 r a1 a2).1 (by rw [a3]; exact h2) k hk
      rw [pv_mod (by omega), if_neg (by omega), if_neg (by omega), show 33 + (r + 1) = 34 + r by omega]
      exact this
  have s93 : slo A n 2000 = nd A n 93 := rfl
  have s94 : slo A n 2001 = nd A n 94 := rfl
  have lf : 8 ≤ i → tbC C n i = pv bi A (leafA A n i) := by
    intro h8
    unfold tbC leafA
    by_cases c : i < 40
    · rw [if_pos c, if_pos c]
      exact e9
    · rw [if_neg c, if_neg c, e10]
      exact tb 2001 (nd A n 94) ((i - 40) / 32) (by unfold vs; omega) (by omega) s94 (by omega)
  refine ⟨?_, lf, e9, e10⟩
  unfold ptC hasA
  by_cases c : i < 8
  · rw [if_pos c, if_pos c]
    exact q i (by omega)
  · rw [if_neg c, if_neg c, lf (by omega)]
    have sE : ∃ s, vs s ∧ 2000 ≤ s ∧ slo A n s = leafA A n i := by
      by_cases c2 : i < 40
      · refine ⟨2000, by unfold vs; omega, by omega, ?_⟩
        unfold leafA
        rw [if_pos c2]
        exact s93
      · refine ⟨2100 + (i - 40) / 32, by unfold vs; omega, by omega, ?_⟩
        unfold slo leafA
        rw [if_neg (by omega), if_neg (by omega), if_pos (by omega), if_neg c2, show 2100 + (i - 40) / 32 - 2100 = (i - 40) / 32 by omega]
    obtain ⟨s, v1, v2, v3⟩ := sE
    have := tb s _ ((i - 8) % 32) v1 v2 v3 (by omega)
    rw [this, show plA i = (i - 8) % 32 by unfold plA; split <;> omega]
end SRS
