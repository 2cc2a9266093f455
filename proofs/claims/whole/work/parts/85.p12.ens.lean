/-! ===== PURE: the reference ensures and drops a block ===== -/
theorem sr_le (p : Nat → Bool) : ∀ m k, k ≤ sr p k m ∧ sr p k m ≤ k + m
  | 0, k => ⟨Nat.le_refl _, Nat.le_refl _⟩
  | m + 1, k => by
    have := sr_le p m (k + 1)
    unfold sr
    split <;> omega
theorem sr_is (p : Nat → Bool) : ∀ m k, sr p k m < k + m → p (sr p k m) = true
  | 0, k, h => by unfold sr at h; omega
  | m + 1, k, h => by
    unfold sr at h ⊢
    split
    · assumption
    · rename_i e
      rw [if_neg e] at h
      exact sr_is p m (k + 1) (by omega)
theorem sr_no (p : Nat → Bool) : ∀ m k q, k ≤ q → q < sr p k m → p q = false
  | 0, k, q, h, h2 => by unfold sr at h2; omega
  | m + 1, k, q, h, h2 => by
    unfold sr at h2
    split at h2
    · omega
    · rename_i e
      by_cases hq : q = k
      · subst hq; simpa using e
      · exact sr_no p m (k + 1) q (by omega) h2
theorem sr_cn (p : Nat → Bool) : ∀ m k, 0 < cn p k m → sr p k m < k + m
  | 0, k, h => by unfold cn at h; omega
  | m + 1, k, h => by
    unfold cn at h
    unfold sr
    split
    · omega
    · rename_i e
      rw [if_neg e] at h
      have := sr_cn p m (k + 1) (by omega)
      omega
/-- the first free block -/
def ff (A : Nat → Nat → Nat) : Nat := sr (frA A) 0 (A 35 7)
/-- how many are free -/
def fre (A : Nat → Nat → Nat) : Nat := cn (frA A) 0 (A 35 7)
def attN (A : Nat → Nat → Nat) (n w : Nat) (me : Bool) : Nat → Nat → Nat := setN (getA A (ff A) me) n w (ff A + 1)
def attP (A : Nat → Nat → Nat) (d k : Nat) (me : Bool) : Nat → Nat → Nat := setP (getA A (ff A) me) d k (ff A + 1)
def ens1 (A : Nat → Nat → Nat) (n i : Nat) : Nat → Nat → Nat := if 8 ≤ i ∧ i < 40 ∧ nd A n 93 = 0 then attN A n 93 true else A
def ens2 (A : Nat → Nat → Nat) (n i : Nat) : Nat → Nat → Nat := if 40 ≤ i ∧ nd A n 94 = 0 then attN A n 94 true else A
def ens3 (A : Nat → Nat → Nat) (n i : Nat) : Nat → Nat → Nat := if 40 ≤ i ∧ leafA A n i = 0 then attP A (nd A n 94 - 1) ((i - 40) / 32) true else A
def ens4 (A : Nat → Nat → Nat) (n i : Nat) : Nat → Nat → Nat := if i < 8 then attN A n (85 + i) (nd A n 0 == 2) else attP A (leafA A n i - 1) (plA i) (nd A n 0 == 2)
def ensA (A : Nat → Nat → Nat) (n i : Nat) : Nat → Nat → Nat := if hasA A n i ≠ 0 then A else ens4 (ens3 (ens2 (ens1 (up2 A 50 n 1) n i) n i) n i) n i
/-- what the numbers of blocks must be -/
def okS (A : Nat → Nat → Nat) : Prop := A 35 6 ≤ 4096 ∧ A 35 7 ≤ 2000 ∧ A 35 34 < 1000000
section RE
variable {b0 fu : Nat} {σ τ : tM} {A : Nat → Nat → Nat} {N : Nat} {J : tJ}
theorem getf_wp {me : Bool} (h : RM b0 J σ A N) (hf : 0 < fre A) (hN : N + 3 < 65536) (hS : okS A) (hu : 3000 ≤ fu) : wp (FR b0) σ (m_X12_get b0 fu (b0 + 35) (nI (bif me then 1 else 0)) σ) (fun v τ => v = nI (ff A) ∧ RM b0 J τ (getA A (ff A) me) (N + 4)) := by
  have h1 := sr_cn (frA A) _ _ hf
  have h2 : ff A < A 35 7 := by unfold ff; omega
  obtain ⟨s1, s2, s3⟩ := hS
  exact get_wp (by omega) h (sr_is _ _ _ h1) (fun q hq => sr_no _ _ _ q (Nat.zero_le _) hq) hN (by omega) s1 hu
end RE
