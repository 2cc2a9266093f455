/-! ===== PURE: the journals forget alike ===== -/
/-- the reference's lists -/
def JL (A : tS) (J : tJ) : Prop := (∀ i j, i ≤ j → j < J.2.1 → J.1 41 i ≤ J.1 41 j) ∧ (∀ i, i < J.2.1 → J.1 41 i + J.1 42 i + J.1 43 i ≤ J.2.2.1) ∧ (∀ q, q < J.2.2.1 → J.1 44 q < 34 + A 35 6 + A 35 7) ∧ (∀ i, i < J.2.1 → J.1 38 i < A 35 6 ∧ J.1 39 i ≤ A 35 6) ∧ ∀ i, J.1 40 i < 1000000000
section FGS
variable {bi sp : Nat → Nat} {w : Nat → Nat × Nat} {C C' : tS} {D D' D1 : tD} {A B : tS} {J J' : tJ} {n k m q g : Nat}
theorem fd_fx : ∀ k (C : tS) (D : tD) (C' : tS) (D' : tD), FDs k C D C' D' → sTz D (dL D) k ≤ C 20 9 → (dL D' = dL D + k ∧ dH D' = dH D ∧ dT D' = dT D ∧ dX D' = dX D ∧ dW D' = dW D ∧ dP D' 3 = dP D 3 ∧ dP D' 8 = dP D 8 ∧ dE D' = dE D ∧ dO D' = dO D) ∧ (∀ p, p ≠ 20 → C' p = C p) ∧ (∀ x, x ≠ 9 → x ≠ 11 → C' 20 x = C 20 x) ∧ C' 20 9 + sTz D (dL D) k = C 20 9 ∧ (C' 20 11 = if k = 0 then C 20 11 else wrC C (dT D 3 (dL D + k) + dT D 4 (dL D + k))) ∧ (∀ m q, mW D' m q = mW D (m + k) q)
  | 0, C, D, C', D', h, _ => by
    obtain ⟨h1, h2⟩ := h
    rw [h1, h2]
    exact ⟨⟨rfl, rfl, rfl, rfl, rfl, rfl, rfl, rfl, rfl⟩, fun _ _ => rfl, fun _ _ _ => rfl, rfl, by rw [if_pos rfl], fun _ _ => rfl⟩
  | k + 1, C, D, C', D', h, hs => by
    obtain ⟨D1, s, f, r⟩ := h
    have s0 := s
    obtain ⟨s1, s2, s3, s4, s5, s6, s7, s8, s9⟩ := s
    have hs' : dT D 4 (dL D + 1) + sTz D (dL D + 1) k ≤ C 20 9 := hs
    have eL : dL (dL1 D1) = dL D + 1 := by show dL D1 + 1 = _; rw [s4]
    have eT : dT (dL1 D1) = dT D := s2
    have c9 : fdC C D (dL D + 1) 20 9 = C 20 9 - dT D 4 (dL D + 1) := by
      unfold fdC
      rw [up2_j (by decide), up2_s]
    obtain ⟨⟨i1, i2, i3, i4, i5, i6, i7, i8, i9⟩, j1, j2, j3, j4, j5⟩ := fd_fx k (fdC C D (dL D + 1)) (dL1 D1) C' D' r (by rw [eL, sTz_c eT, c9]; omega)
    rw [eL] at i1 j3 j4
    rw [sTz_c eT, c9] at j3
    refine ⟨⟨by rw [i1]; omega, by rw [i2]; exact s5, by rw [i3]; exact s2, by rw [i4]; exact s3, by rw [i5]; exact s1, by rw [i6]; exact s8, by rw [i7]; exact s9, by rw [i8]; exact s6, by rw [i9]; exact s7⟩, fun p hp => ?_, fun x h9 h11 => ?_, ?_, ?_, fun m q => ?_⟩
    · rw [j1 p hp]
      unfold fdC
      rw [up2_rown hp, up2_rown hp]
    · rw [j2 x h9 h11]
      unfold fdC
      rw [up2_j h11, up2_j h9]
    · show C' 20 9 + (dT D 4 (dL D + 1) + sTz D (dL D + 1) k) = C 20 9
      omega
    · rw [j4, if_neg (show ¬ k + 1 = 0 by omega)]
      have w8 : ∀ p, wrC (fdC C D (dL D + 1)) p = wrC C p := fun p => by
        unfold wrC fdC
        rw [up2_j (by decide), up2_j (by decide)]
      by_cases c : k = 0
      · rw [if_pos c, c]
        unfold fdC
        rw [up2_s]
      · rw [if_neg c, w8, eT, show dL D + 1 + k = dL D + (k + 1) by omega]
    · rw [j5, mW_fd s0 f, show m + k + 1 = m + (k + 1) by omega]
/-- the reference's records behind forget -/
theorem fg_fx (hl : JL A J) (hg : A 35 32 - A 35 35 ≤ J.2.1) (h1 : A 35 35 ≤ A 35 32) :
    ((fgJ A J).2.1 = J.2.1 - (A 35 32 - A 35 35)) ∧ (∀ f i, f = 37 ∨ f = 38 ∨ f = 39 ∨ f = 42 ∨ f = 43 → i < J.2.1 - (A 35 32 - A 35 35) → (fgJ A J).1 f i = J.1 f (i + (A 35 32 - A 35 35))) ∧
    (∃ fi, (∀ i, i < J.2.1 - (A 35 32 - A 35 35) → (fgJ A J).1 41 i + fi = J.1 41 (i + (A 35 32 - A 35 35))) ∧ (∀ i, (fgJ A J).1 44 i = J.1 44 (i + fi)) ∧ (fgJ A J).2.2.1 + fi = J.2.2.1) ∧
    (∀ i, i < J.2.1 - (A 35 32 - A 35 35) → (fgJ A J).1 40 i = J.1 40 (i + (A 35 32 - A 35 35)) - frA_ A J) ∧ (∀ p s, (fgJ A J).2.2.2 p s ↔ J.2.2.2 (p + frA_ A J) s) ∧ (∀ i, (fgJ A J).1 40 i < 1000000000) := by
  obtain ⟨l1, l2, l3, l4, l5⟩ := hl
  unfold fgJ
  by_cases c : A 35 35 < A 35 32
  · rw [if_pos c]
    generalize hgg : A 35 32 - A 35 35 = g at hg
    have g0 : 0 < g := by omega
    have F1 : ∀ f i, f ≠ 40 → (fg1 J (frA_ A J)).1 f i = J.1 f i := fun f i hf => fg1_B hf
    have n1 : (fg1 J (frA_ A J)).2.1 = J.2.1 := rfl
    have n2 : (fg1 J (frA_ A J)).2.2.1 = J.2.2.1 := rfl
    have c40 : ∀ i, (fg1 J (frA_ A J)).1 40 i = if i < J.2.1 then J.1 40 i - frA_ A J else J.1 40 i := fun i => by
      show chB (frA_ A J) 0 J.2.1 J.1 40 i = _
      rw [chB_at]
      by_cases d : i < J.2.1
      · rw [if_pos ⟨rfl, Nat.zero_le _, by omega⟩, if_pos d]
      · rw [if_neg (by omega), if_neg d]
    have mv : ∀ f i, f ≠ 44 → (fg2 (fg1 J (frA_ A J)) g).1 f i = if 37 ≤ f ∧ f ≤ 43 ∧ i < J.2.1 - g then (if f = 41 then J.1 41 (i + g) - fiJ (fg1 J (frA_ A J)) g else (fg1 J (frA_ A J)).1 f (i + g)) else (fg1 J (frA_ A J)).1 f i := fun f i hf => by
      show mvL g (fiJ (fg1 J (frA_ A J)) g) g (J.2.1 - g) (upR (fg1 J (frA_ A J)).1 44 (fun i => (fg1 J (frA_ A J)).1 44 (i + fiJ (fg1 J (frA_ A J)) g))) f i = _
      have U : ∀ f i, f ≠ 44 → upR (fg1 J (frA_ A J)).1 44 (fun i => (fg1 J (frA_ A J)).1 44 (i + fiJ (fg1 J (frA_ A J)) g)) f i = (fg1 J (frA_ A J)).1 f i := fun f i hf => if_neg hf
      rw [mvL_at g0 _ _ _ _ _ (Nat.le_refl _), U 41 _ (by decide), F1 41 _ (by decide), U f (i + g) hf, U f i hf]
      by_cases d : 37 ≤ f ∧ f ≤ 43 ∧ i < J.2.1 - g
      · rw [if_pos d, if_pos ⟨d.1, d.2.1, by omega, by omega⟩]
      · rw [if_neg d, if_neg (fun e => d ⟨e.1, e.2.1, by omega⟩)]
    have m44 : ∀ i, (fg2 (fg1 J (frA_ A J)) g).1 44 i = J.1 44 (i + fiJ (fg1 J (frA_ A J)) g) := fun i => by
      show mvL g (fiJ (fg1 J (frA_ A J)) g) g (J.2.1 - g) (upR (fg1 J (frA_ A J)).1 44 (fun i => (fg1 J (frA_ A J)).1 44 (i + fiJ (fg1 J (frA_ A J)) g))) 44 i = _
      rw [mvL_at g0 _ _ _ _ _ (Nat.le_refl _), if_neg (by omega)]
      show (if 44 = 44 then (fg1 J (frA_ A J)).1 44 (i + fiJ (fg1 J (frA_ A J)) g) else _) = _
      rw [if_pos rfl, F1 44 _ (by decide)]
    have fle : ∀ i, i < J.2.1 - g → fiJ (fg1 J (frA_ A J)) g ≤ J.1 41 (i + g) := fun i hi => by
      unfold fiJ
      rw [n1, if_pos (by omega), F1 41 _ (by decide)]
      exact l1 g (i + g) (by omega) (by omega)
    have fnl : fiJ (fg1 J (frA_ A J)) g ≤ J.2.2.1 := by
      unfold fiJ
      rw [n1, n2]
      by_cases d : g < J.2.1
      · rw [if_pos d, F1 41 _ (by decide)]
        have := l2 g d
        omega
      · rw [if_neg d]
        exact Nat.le_refl _
    refine ⟨rfl, fun f i hf hi => ?_, ⟨fiJ (fg1 J (frA_ A J)) g, fun i hi => ?_, m44, ?_⟩, fun i hi => ?_, fun p s => ?_, fun i => ?_⟩
    · rw [mv f i (by omega), if_pos ⟨by omega, by omega, hi⟩, if_neg (by omega), F1 f _ (by omega)]
    · rw [mv 41 i (by decide), if_pos ⟨by decide, by decide, hi⟩, if_pos rfl]
      have := fle i hi
      omega
    · show J.2.2.1 - fiJ (fg1 J (frA_ A J)) g + fiJ (fg1 J (frA_ A J)) g = J.2.2.1
      omega
    · rw [mv 40 i (by decide), if_pos ⟨by decide, by decide, hi⟩, if_neg (by decide), c40, if_pos (by omega)]
    · show (∃ q, q = p + frA_ A J ∧ J.2.2.2 q s) ↔ _
      exact ⟨fun ⟨q, e, h⟩ => e ▸ h, fun h => ⟨_, rfl, h⟩⟩
    · rw [mv 40 i (by decide)]
      have := l5 i
      have := l5 (i + g)
      split
      · rw [if_neg (by decide), c40]
        split <;> omega
      · rw [c40]
        split <;> omega
  · rw [if_neg c]
    have e0 : A 35 32 - A 35 35 = 0 := by omega
    rw [e0]
    refine ⟨rfl, fun f i hf hi => ?_, ⟨0, fun i hi => ?_, fun i => ?_, rfl⟩, fun i hi => ?_, fun p s => ?_, fun i => ?_⟩
    · rw [fg1_B (by omega)]
      rfl
    · rw [fg1_B (by omega)]
      rfl
    · rw [fg1_B (by omega)]
      rfl
    · show chB (frA_ A J) 0 J.2.1 J.1 40 i = _
      rw [chB_at, if_pos ⟨rfl, Nat.zero_le _, by omega⟩]
      rfl
    · show (∃ q, q = p + frA_ A J ∧ J.2.2.2 q s) ↔ _
      exact ⟨fun ⟨q, e, h⟩ => e ▸ h, fun h => ⟨_, rfl, h⟩⟩
    · show chB (frA_ A J) 0 J.2.1 J.1 40 i < _
      rw [chB_at]
      have := l5 i
      split <;> omega
end FGS
