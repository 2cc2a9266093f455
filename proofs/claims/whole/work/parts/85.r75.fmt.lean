/-! ===== PURE: what format leaves in the reference ===== -/
/-- the first number of an entry -/
def eP (j : Nat) : Bool := decide (6080 ≤ j ∧ j < 554080 ∧ 34 ≤ (j - 6080) % 274 ∧ ((j - 6080) % 274 - 34) % 30 = 0)
section FMT
variable {A B E : tS} {J : tJ} {l r t n m k i j q b K : Nat}
theorem e8_at (r : Nat) : ∀ m k (A : tS) (p j : Nat), e8 r m k A p j = if p = 36 ∧ 6080 + r * 274 + 34 + k * 30 ≤ j ∧ j < 6080 + r * 274 + 34 + (k + m) * 30 ∧ (j - (6080 + r * 274 + 34)) % 30 = 0 then 64 else A p j
  | 0, k, A, p, j => by rw [if_neg (by omega)]; rfl
  | m + 1, k, A, p, j => by
    have e : e8 r (m + 1) k A = e8 r m (k + 1) (up2 A 36 (6080 + r * 274 + (34 + k * 30)) 64) := rfl
    rw [e, e8_at r m (k + 1), up2_if]
    by_cases c1 : p = 36 ∧ 6080 + r * 274 + 34 + (k + 1) * 30 ≤ j ∧ j < 6080 + r * 274 + 34 + (k + 1 + m) * 30 ∧ (j - (6080 + r * 274 + 34)) % 30 = 0
    · rw [if_pos c1, if_pos (by omega)]
    · rw [if_neg c1]
      by_cases c2 : p = 36 ∧ j = 6080 + r * 274 + (34 + k * 30)
      · rw [if_pos c2, if_pos (by omega)]
      · rw [if_neg c2, if_neg (by omega)]
theorem e8_iff : (6080 + r * 274 + 34 + 0 * 30 ≤ j ∧ j < 6080 + r * 274 + 34 + (0 + 8) * 30 ∧ (j - (6080 + r * 274 + 34)) % 30 = 0) ↔ (6080 ≤ j ∧ (j - 6080) / 274 = r ∧ 34 ≤ (j - 6080) % 274 ∧ ((j - 6080) % 274 - 34) % 30 = 0) := by
  have hj := Nat.div_add_mod (j - 6080) 274
  have hx := Nat.mod_lt (j - 6080) (show 274 > 0 by decide)
  generalize (j - 6080) / 274 = y at *
  generalize (j - 6080) % 274 = x at *
  constructor
  · rintro ⟨a, b, c⟩
    have e : y = r := by omega
    subst e
    have e2 : j - (6080 + y * 274 + 34) = x - 34 := by omega
    rw [e2] at c
    exact ⟨by omega, rfl, by omega, c⟩
  · rintro ⟨a0, a, b, c⟩
    subst a
    have e2 : j - (6080 + y * 274 + 34) = x - 34 := by omega
    exact ⟨by omega, by omega, by rw [e2]; exact c⟩
theorem eR_at : ∀ m r (A : tS) (p j : Nat), eR m r A p j = if p = 36 ∧ 6080 ≤ j ∧ r ≤ (j - 6080) / 274 ∧ (j - 6080) / 274 < r + m ∧ 34 ≤ (j - 6080) % 274 ∧ ((j - 6080) % 274 - 34) % 30 = 0 then 64 else A p j
  | 0, r, A, p, j => by
    rw [if_neg (fun q => by have := q.2.2.1; have := q.2.2.2.1; omega)]
    rfl
  | m + 1, r, A, p, j => by
    have e : eR (m + 1) r A = eR m (r + 1) (e8 r 8 0 A) := rfl
    have i8 := e8_iff (r := r) (j := j)
    rw [e, eR_at m (r + 1), e8_at]
    simp only [i8]
    clear i8 e
    generalize (j - 6080) / 274 = y
    generalize ((j - 6080) % 274 - 34) % 30 = z
    generalize (j - 6080) % 274 = x
    by_cases c1 : p = 36 ∧ 6080 ≤ j ∧ r + 1 ≤ y ∧ y < r + 1 + m ∧ 34 ≤ x ∧ z = 0
    · rw [if_pos c1, if_pos (by omega)]
    · rw [if_neg c1]
      by_cases c2 : p = 36 ∧ 6080 ≤ j ∧ y = r ∧ 34 ≤ x ∧ z = 0
      · rw [if_pos c2, if_pos (by omega)]
      · rw [if_neg c2, if_neg (by omega)]
theorem fo5_at : ∀ m k (A : tS) (p j : Nat), fo5 m k A p j = if (p = 48 ∨ p = 49) ∧ k ≤ j ∧ j < k + m then 0 else A p j
  | 0, k, A, p, j => by rw [if_neg (by omega)]; rfl
  | m + 1, k, A, p, j => by
    have e : fo5 (m + 1) k A = fo5 m (k + 1) (up2 (up2 A 48 k 0) 49 k 0) := rfl
    rw [e, fo5_at m (k + 1), up2_if, up2_if]
    by_cases c1 : (p = 48 ∨ p = 49) ∧ k + 1 ≤ j ∧ j < k + 1 + m
    · rw [if_pos c1, if_pos (by omega)]
    · rw [if_neg c1]
      by_cases c2 : p = 49 ∧ j = k
      · rw [if_pos c2, if_pos (by omega)]
      · rw [if_neg c2]
        by_cases c3 : p = 48 ∧ j = k
        · rw [if_pos c3, if_pos (by omega)]
        · rw [if_neg c3, if_neg (by omega)]
/-- the tree's cells behind format -/
theorem fo_tree (l r : Nat) (A : tS) : foA l r A 36 0 = 2 ∧ (∀ j, j < 554080 → j ≠ 0 → foA l r A 36 j = if eP j = true then 64 else 0) := by
  have e : foA l r A 36 = fo2 l r A 36 := fo_36 (fo2 l r A)
  rw [e]
  unfold fo2
  refine ⟨up2_s _ _ _ _, fun j hj h0 => ?_⟩
  rw [up2_j h0, eR_at, fl_at, if_pos (show 36 = 36 ∧ 0 ≤ j ∧ j < 0 + 554080 from ⟨rfl, Nat.zero_le _, by omega⟩)]
  unfold eP
  have hy : (j - 6080) / 274 < 0 + 2000 := by omega
  generalize ((j - 6080) % 274 - 34) % 30 = z
  generalize (j - 6080) % 274 = x
  generalize (j - 6080) / 274 = y at *
  by_cases c : 6080 ≤ j ∧ j < 554080 ∧ 34 ≤ x ∧ z = 0
  · rw [if_pos ⟨rfl, c.1, Nat.zero_le _, hy, c.2.2.1, c.2.2.2⟩, decide_eq_true c, if_pos rfl]
  · rw [if_neg (fun q => c ⟨q.2.1, hj, q.2.2.2.2.1, q.2.2.2.2.2⟩), decide_eq_false c, if_neg (by decide)]
/-- rows behind format -/
theorem fo_rows (l r : Nat) (A : tS) : (∀ o, o ≠ 35 → o ≠ 36 → o ≠ 39 → o ≠ 46 → ¬ (48 ≤ o ∧ o ≤ 52) → o ≠ 64 → o ≠ 71 → foA l r A o = A o) ∧ (∀ b, b < 6200 → foA l r A 39 b = 0 ∧ foA l r A 46 b = 0 ∧ foA l r A 51 b = 0 ∧ foA l r A 52 b = 0) ∧ (∀ b, 6200 ≤ b → foA l r A 46 b = A 46 b) ∧ (∀ n, n < 64 → foA l r A 50 n = 0) ∧ (∀ k, k < 2000 → foA l r A 48 k = 0 ∧ foA l r A 49 k = 0) ∧ (∀ h, h < 16 → foA l r A 71 h = 0) ∧ (∀ v, v < 2 → foA l r A 64 v = 0) := by
  have u : ∀ (X : tS) (a b c d e f g h p q : Nat), (X : tS) p q = X p q := fun _ _ _ _ _ _ _ _ _ _ _ => rfl
  have f1 : ∀ o, o ≠ 35 → fo1 l r A o = A o := fun o h => by
    unfold fo1
    rw [up2_rown h, up2_rown h, up2_rown h]
  have f2 : ∀ o, o ≠ 35 → o ≠ 36 → fo2 l r A o = A o := fun o h h2 => by
    unfold fo2
    funext j
    rw [up2_o h2, eR_at, if_neg (fun q => h2 q.1), fl_row h2, f1 o h]
  have f3 : ∀ (X : tS) o, o ≠ 35 → fo4 (fo3 X) o = X o := fun X o h => by
    unfold fo4 fo3
    rw [up2_rown h, up2_rown h, up2_rown h, up2_rown h, up2_rown h, up2_rown h, up2_rown h, up2_rown h, up2_rown h, up2_rown h, up2_rown h, up2_rown h, up2_rown h, up2_rown h]
  have f6 : ∀ (X : tS) o, o ≠ 35 → o ≠ 64 → fo6 X o = X o := fun X o h h2 => by
    unfold fo6
    rw [up2_rown h, up2_rown h2, up2_rown h2]
  have f5 : ∀ (X : tS) o, o ≠ 48 → o ≠ 49 → fo5 2000 0 X o = X o := fun X o h h2 => by
    funext j
    rw [fo5_at, if_neg (by omega)]
  have eg : ∀ (X : tS) o, o ≠ 50 → o ≠ 51 → o ≠ 52 → egA X o = X o := fun X o h1 h2 h3 => by
    unfold egA
    rw [fl_row h1, fl_row h3, fl_row h2]
  refine ⟨fun o a1 a2 a3 a4 a5 a6 a7 => ?_, fun b hb => ⟨?_, ?_, ?_, ?_⟩, fun b hb => ?_, fun n hn => ?_, fun k hk => ⟨?_, ?_⟩, fun h hh => ?_, fun v hv => ?_⟩
  · unfold foA
    rw [f6 _ o a1 a6, fl_row a7, f5 _ o (by omega) (by omega), fl_row a4, eg _ o (by omega) (by omega) (by omega), f3 _ o a1, fl_row a3, f2 o a1 a2]
  · unfold foA
    rw [f6 _ 39 (by decide) (by decide), fl_row (by decide), f5 _ 39 (by omega) (by omega), fl_row (by decide), eg _ 39 (by omega) (by omega) (by omega), f3 _ 39 (by decide), fl_at, if_pos ⟨rfl, Nat.zero_le _, by omega⟩]
  · unfold foA
    rw [f6 _ 46 (by decide) (by decide), fl_row (by decide), f5 _ 46 (by omega) (by omega), fl_at, if_pos ⟨rfl, Nat.zero_le _, by omega⟩]
  · unfold foA
    rw [f6 _ 51 (by decide) (by decide), fl_row (by decide), f5 _ 51 (by omega) (by omega), fl_row (by decide)]
    unfold egA
    rw [fl_row (by decide), fl_row (by decide), fl_at, if_pos ⟨rfl, Nat.zero_le _, by omega⟩]
  · unfold foA
    rw [f6 _ 52 (by decide) (by decide), fl_row (by decide), f5 _ 52 (by omega) (by omega), fl_row (by decide)]
    unfold egA
    rw [fl_row (by decide), fl_at, if_pos ⟨rfl, Nat.zero_le _, by omega⟩]
  · unfold foA
    rw [f6 _ 46 (by decide) (by decide), fl_row (by decide), f5 _ 46 (by omega) (by omega), fl_at, if_neg (by omega), eg _ 46 (by omega) (by omega) (by omega), f3 _ 46 (by decide), fl_row (by decide), f2 46 (by decide) (by decide)]
  · unfold foA
    rw [f6 _ 50 (by decide) (by decide), fl_row (by decide), f5 _ 50 (by omega) (by omega), fl_row (by decide)]
    unfold egA
    rw [fl_at, if_pos ⟨rfl, Nat.zero_le _, by omega⟩]
  · unfold foA
    rw [f6 _ 48 (by decide) (by decide), fl_row (by decide), fo5_at, if_pos ⟨Or.inl rfl, Nat.zero_le _, by omega⟩]
  · unfold foA
    rw [f6 _ 49 (by decide) (by decide), fl_row (by decide), fo5_at, if_pos ⟨Or.inr rfl, Nat.zero_le _, by omega⟩]
  · unfold foA
    rw [f6 _ 71 (by decide) (by decide), fl_at, if_pos ⟨rfl, Nat.zero_le _, by omega⟩]
  · unfold foA fo6
    rw [up2_rown (by decide)]
    by_cases c : v = 1
    · rw [c, up2_s]
    · rw [up2_j c, show v = 0 by omega, up2_s]
/-- numbers behind format -/
theorem fo_num (l r : Nat) (A : tS) : ∀ q, foA l r A 35 q = if q = 6 then l else if q = 7 then r else if q = 18 then 1 else if q = 0 ∨ q = 15 ∨ q = 16 ∨ q = 19 ∨ q = 20 ∨ q = 21 ∨ (28 ≤ q ∧ q ≤ 33) ∨ q = 35 ∨ q = 46 ∨ q = 57 then 0 else A 35 q := by
  intro q
  have f5 : ∀ (X : tS) j, fo5 2000 0 X 35 j = X 35 j := fun X j => by rw [fo5_at, if_neg (by omega)]
  unfold foA fo6
  by_cases c57 : q = 57
  · rw [c57, up2_s, if_neg (by decide), if_neg (by decide), if_neg (by decide), if_pos (by decide)]
  rw [up2_j c57, up2_o (by decide), up2_o (by decide), fl_row (by decide), f5, fl_row (by decide)]
  unfold egA
  have g : ∀ (X : tS) q, fo4 (fo3 X) 35 q = if q = 18 then 1 else if q = 15 ∨ q = 16 ∨ q = 19 ∨ q = 20 ∨ q = 21 ∨ (28 ≤ q ∧ q ≤ 33) ∨ q = 35 ∨ q = 46 then 0 else X 35 q := fun X q => by
    unfold fo4 fo3
    simp only [up2_if, true_and]
    by_cases h46 : q = 46
    · rw [if_pos h46, if_neg (show ¬ q = 18 by omega), if_pos (by omega)]
    rw [if_neg h46]
    by_cases h33 : q = 33
    · rw [if_pos h33, if_neg (show ¬ q = 18 by omega), if_pos (by omega)]
    rw [if_neg h33]
    by_cases h32 : q = 32
    · rw [if_pos h32, if_neg (show ¬ q = 18 by omega), if_pos (by omega)]
    rw [if_neg h32]
    by_cases h31 : q = 31
    · rw [if_pos h31, if_neg (show ¬ q = 18 by omega), if_pos (by omega)]
    rw [if_neg h31]
    by_cases h30 : q = 30
    · rw [if_pos h30, if_neg (show ¬ q = 18 by omega), if_pos (by omega)]
    rw [if_neg h30]
    by_cases h29 : q = 29
    · rw [if_pos h29, if_neg (show ¬ q = 18 by omega), if_pos (by omega)]
    rw [if_neg h29]
    by_cases h28 : q = 28
    · rw [if_pos h28, if_neg (show ¬ q = 18 by omega), if_pos (by omega)]
    rw [if_neg h28]
    by_cases h35 : q = 35
    · rw [if_pos h35, if_neg (show ¬ q = 18 by omega), if_pos (by omega)]
    rw [if_neg h35]
    by_cases h21 : q = 21
    · rw [if_pos h21, if_neg (show ¬ q = 18 by omega), if_pos (by omega)]
    rw [if_neg h21]
    by_cases h20 : q = 20
    · rw [if_pos h20, if_neg (show ¬ q = 18 by omega), if_pos (by omega)]
    rw [if_neg h20]
    by_cases h19 : q = 19
    · rw [if_pos h19, if_neg (show ¬ q = 18 by omega), if_pos (by omega)]
    rw [if_neg h19]
    by_cases h18 : q = 18
    · rw [if_pos h18, if_pos h18]
    rw [if_neg h18]
    by_cases h16 : q = 16
    · rw [if_pos h16, if_neg h18, if_pos (by omega)]
    rw [if_neg h16]
    by_cases h15 : q = 15
    · rw [if_pos h15, if_neg h18, if_pos (by omega)]
    rw [if_neg h15]
    rw [if_neg h18, if_neg (by omega)]
  have g2 : fo2 l r A 35 q = if q = 7 then r else if q = 6 then l else if q = 0 then 0 else A 35 q := by
    unfold fo2
    rw [up2_o (by decide), eR_at, if_neg (fun e => absurd e.1 (by decide)), fl_row (by decide)]
    unfold fo1
    simp only [up2_if, true_and]
  rw [fl_row (by decide), fl_row (by decide), fl_row (by decide), g, fl_row (by decide), g2]
  repeat' split
  all_goals first | rfl | omega
end FMT
