/-! ===== PURE: what posting ahead leaves, whether power fails in it or not ===== -/
section XUS
variable {Φ : tPh} {b0 : Nat} {σ : tM} {bi sp : Nat → Nat} {w : Nat → Nat × Nat} {C : tS} {D : tD} {A B E : tS} {J J' : tJ} {K t un n a a' c c' m m' b wh id : Nat}
def apS (J : tJ) (A : tS) (m : Nat) : Prop := A 35 35 ≤ A 35 30 ∧ ∀ k, A 35 30 - A 35 35 ≤ k → k < A 35 30 - A 35 35 + m → J.1 42 k ≤ 2100 ∧ ∀ i, i < J.1 42 k → J.1 44 (J.1 41 k + i) < 34 + A 35 6 + A 35 7
theorem XR_apN : ∀ m (A : tS), apS J A m → XR false 0 0 (2100 * m) A (oX (apN J m A))
  | 0, _, _ => XR_r
  | m + 1, A, h => by
    obtain ⟨h0, h1⟩ := h
    obtain ⟨b1, b2⟩ := h1 _ (Nat.le_refl _) (by omega)
    have f := XR_ap1 (J := J) (k := A 35 30 - A 35 35) (i0 := A 35 29 - A 35 30 - 1) (J.1 42 (A 35 30 - A 35 35)) 0 A (fun q _ hq _ => b2 q (by omega))
    show XR false 0 0 (2100 * (m + 1)) A (oX (bX (applyX A J) (apN J m)))
    unfold applyX
    cases e : ap1 J (A 35 30 - A 35 35) (A 35 29 - A 35 30 - 1) (J.1 42 (A 35 30 - A 35 35)) 0 A with
    | inr B =>
      rw [e, oX_r] at f
      show XR false 0 0 (2100 * (m + 1)) A B
      exact XR_le f (Nat.le_refl _) (Nat.le_refl _) (by omega)
    | inl B =>
      have fB := ap1_f _ _ _ _ A B e
      rw [e, oX_l] at f
      show XR false 0 0 (2100 * (m + 1)) A (oX (apN J m (up2 B 35 30 (A 35 30 + 1))))
      have g : XR false 0 0 0 B (up2 B 35 30 (A 35 30 + 1)) := XR_q (by decide) (by decide) (by decide) (by decide) (by decide) (by decide) (by omega)
      have n : ∀ q, q ≠ 30 → (q ≤ 14 ∨ 22 ≤ q) → up2 B 35 30 (A 35 30 + 1) 35 q = A 35 q := fun q h1 h2 => by rw [up2_j h1, fB q h2]
      have n30 : up2 B 35 30 (A 35 30 + 1) 35 30 = A 35 30 + 1 := up2_s _ _ _ _
      have r := XR_apN m (up2 B 35 30 (A 35 30 + 1)) ⟨by rw [n 35 (by decide) (by omega), n30]; omega, fun k k1 k2 => by
        rw [n 35 (by decide) (by omega), n30] at k1 k2
        rw [n 6 (by decide) (by omega), n 7 (by decide) (by omega)]
        exact h1 k (by omega) (by omega)⟩
      exact XR_le (XR_t (XR_t f g) r) (Nat.le_refl _) (Nat.le_refl _) (by omega)
theorem ap_str (hR : RO Φ bi sp w C D A J) : apS J A (A 35 29 - A 35 30) := by
  obtain ⟨⟨r1, r2, r3, r4, r5, r6, r7, r8, r9, r10⟩, hSR, hT, hLc, hHc, hgh, hon, hnr, h46⟩ := hR
  have jo := r2.2.2.1
  unfold JO at jo
  obtain ⟨l1, l2, l3, l4, l5⟩ := r3
  have d1 := r2.2.1.1
  have d2 := r2.2.1.2
  refine ⟨by omega, fun k k1 k2 => ?_⟩
  have tr := r2.2.2.2.2.2 (A 35 35 + k + 1) (by omega) (by omega)
  have b8 := tr.2.2.2.2.2.2.2.1
  have e8 : dT D 8 (A 35 35 + k + 1) = J.1 42 k := by rw [tr.1.2.2.2.2.1, show A 35 35 + k + 1 - A 35 35 - 1 = k by omega]
  refine ⟨by omega, fun i hi => l3 _ ?_⟩
  have := l2 k (by omega)
  omega
theorem oA_l (s : tP) : oA (.inl s) = s := rfl
theorem oA_r (s : tP) : oA (.inr s) = s := rfl
theorem XR_ck (hΦ : goodT Φ) (hok : ∀ w A, Φ w A → okT A) (h : CM b0 σ C D) (hR : RO Φ bi sp w C D A J) (hn : A 35 28 < 64) : XR false 0 0 134500 A (oA (checkX A J)).1 := by
  intro K d
  have f := XR_flX (A := A) (J := J)
  unfold checkX
  cases e : flushX A J with
  | inr s =>
    rw [e, oA_r] at f
    show dsk s.1 K ∧ _
    exact XR_le f (Nat.le_refl _) (Nat.le_refl _) (by omega) K d
  | inl s =>
    rw [e, oA_l] at f
    obtain ⟨ρ1, C1, D1, a1, a2⟩ := fl_RO (K := K + 134498) hΦ hok h hR d e
    obtain ⟨d1, k28, k29, -⟩ := flX_f (K := K + 134498) d hR.1.2.1.2.2.1 e
    have jo := a2.1.2.1.2.2.1
    unfold JO at jo
    have g := XR_apN (J := s.2) (s.1 35 29 - s.1 35 30) s.1 (ap_str a2)
    have g : XR false 0 0 134400 s.1 (oX (apN s.2 (s.1 35 29 - s.1 35 30) s.1)) := XR_le g (Nat.le_refl _) (Nat.le_refl _) (by omega)
    have fg := XR_t f g
    have key : XR false 0 0 134500 A (oA (ck2X s.1 s.2)).1 := by
      unfold ck2X
      cases e2 : apN s.2 (s.1 35 29 - s.1 35 30) s.1 with
      | inr B =>
        rw [e2, oX_r] at fg
        show XR false 0 0 134500 A B
        exact XR_le fg (Nat.le_refl _) (Nat.le_refl _) (by omega)
      | inl B =>
        rw [e2, oX_l] at fg
        show XR false 0 0 134500 A (oA (bP (flushX B s.2) (fun s2 => flushX s2.1 s2.2))).1
        have f2 := XR_flX (A := B) (J := s.2)
        cases e3 : flushX B s.2 with
        | inr s3 =>
          rw [e3, oA_r] at f2
          show XR false 0 0 134500 A s3.1
          exact XR_le (XR_t fg f2) (Nat.le_refl _) (Nat.le_refl _) (by omega)
        | inl s3 =>
          rw [e3, oA_l] at f2
          show XR false 0 0 134500 A (oA (flushX s3.1 s3.2)).1
          exact XR_le (XR_t (XR_t fg f2) XR_flX) (Nat.le_refl _) (Nat.le_refl _) (by omega)
    exact key K d
/-- what a commit leaves of the numbers -/
theorem XR_cmz {gz : Nat} (hΦ : goodT Φ) (hok : ∀ w A, Φ w A → okT A) (h : CM b0 σ C D) (hR : RO Φ bi sp w C D A J) (hn : A 35 28 < 64) (g4 : gz ≤ 4096) : XR true 1 1 138700 A (oA (if gz ≤ freA_ A J then cm1X A J gz un else bP (checkX A J) (fun s => cm1X s.1 s.2 gz un))).1 := by
  have jo := hR.1.2.1.2.2.1
  unfold JO at jo
  split
  · exact XR_le (XR_cm1 (by omega)) (Nat.le_refl _) (Nat.le_refl _) (by omega)
  · intro K d
    have f := XR_ck hΦ hok h hR hn
    have fd := f (K + 4200) (dsk_le d (by omega))
    cases e : checkX A J with
    | inr s =>
      rw [e, oA_r] at f
      show dsk s.1 K ∧ _
      exact XR_tt (XR_le f (by omega) (by omega) (by omega)) K d
    | inl s =>
      rw [e, oA_l] at f fd
      have := XR_t f (XR_cm1 (A := s.1) (J := s.2) (un := un) (sz := gz) (by rw [fd.2.2.1 6 (by omega)]; omega))
      exact XR_le this (by omega) (by omega) (by omega) K d
theorem XR_cmr {gz : Nat} {s : tP} (hΦ : goodT Φ) (hok : ∀ w A, Φ w A → okT A) (h : CM b0 σ C D) (hR : RO Φ bi sp w C D A J) (hn : A 35 28 < 64) (g4 : gz ≤ 4096) (e : (if gz ≤ freA_ A J then cm1X A J gz un else bP (checkX A J) (fun s => cm1X s.1 s.2 gz un)) = .inr s) : XR false 1 1 138700 A s.1 := by
  have jo := hR.1.2.1.2.2.1
  unfold JO at jo
  split at e
  · exact XR_le (XR_cm1r (by omega) e) (Nat.le_refl _) (Nat.le_refl _) (by omega)
  · intro K d
    have f := XR_ck hΦ hok h hR hn
    have fd := f (K + 4200) (dsk_le d (by omega))
    cases e2 : checkX A J with
    | inr y =>
      rw [e2, oA_r] at f
      rw [e2] at e
      have e : (Sum.inr y : tP ⊕ tP) = .inr s := e
      have hs : y = s := by injection e
      rw [← hs]
      exact XR_le f (by omega) (by omega) (by omega) K d
    | inl y =>
      rw [e2, oA_l] at f fd
      rw [e2] at e
      have := XR_t f (XR_cm1r (A := y.1) (J := y.2) (un := un) (sz := gz) (s := s) (by rw [fd.2.2.1 6 (by omega)]; omega) e)
      exact XR_le this (by omega) (by omega) (by omega) K d
theorem jo_6 (hR : RO Φ bi sp w C D A J) : 40 ≤ A 35 6 ∧ A 35 6 ≤ 4096 := by
  have jo := hR.1.2.1.2.2.1
  unfold JO at jo
  omega
theorem XR_cm (hΦ : goodT Φ) (hok : ∀ w A, Φ w A → okT A) (h : CM b0 σ C D) (hR : RO Φ bi sp w C D A J) (hn : A 35 28 < 64) (hg : gsA A ≤ A 35 6) : XR true 1 1 138700 A (oA (cmX A J un)).1 := XR_cmz hΦ hok h hR hn (Nat.le_trans hg (jo_6 hR).2)
theorem cn_len {p : Nat → Bool} : ∀ m m' k, m ≤ m' → cn p k m ≤ cn p k m'
  | 0, _, _, _ => Nat.zero_le _
  | m + 1, 0, _, h => by omega
  | m + 1, m' + 1, k, h => by
    have := cn_len (p := p) m m' (k + 1) (by omega)
    show (if p k = true then 1 else 0) + cn p (k + 1) m ≤ (if p k = true then 1 else 0) + cn p (k + 1) m'
    omega
/-- lists and trees of the journal behind a commit -/
def JN (x : Nat) (s : Nat → Nat) (J J' : tJ) : Prop := J'.2.2.1 ≤ J.2.2.1 + x ∧ ∀ p q, J'.2.2.2 p q → (∃ p', J.2.2.2 p' q) ∨ q = s
theorem JN_m {x : Nat} {s : Nat → Nat} (h : JM J J') : JN x s J J' := ⟨Nat.le_trans h.1 (by omega), fun p q y => Or.inl (h.2 p q y)⟩
theorem JN_cm1 {sz : Nat} (hb : blk A ≤ 6200) : JN (tcA A + rcA A) (A 36) J (oA (cm1X A J sz un)).2 := by
  have b1 : cn (tch (up2 A 35 34 (A 35 34 + 1))) 0 (blk (up2 A 35 34 (A 35 34 + 1))) ≤ tcA A := by
    have e : blk (up2 A 35 34 (A 35 34 + 1)) = blk A := by
      unfold blk
      rw [up2_j (by decide), up2_j (by decide)]
    have e2 : tch (up2 A 35 34 (A 35 34 + 1)) = fun b => A 51 b != 0 := by
      funext b
      unfold tch
      rw [up2_o (by decide)]
    rw [e, e2]
    exact cn_len _ _ _ hb
  have b2 : cn (rvk (up2 A 35 34 (A 35 34 + 1))) 0 (blk (up2 A 35 34 (A 35 34 + 1))) ≤ rcA A := by
    have e : blk (up2 A 35 34 (A 35 34 + 1)) = blk A := by
      unfold blk
      rw [up2_j (by decide), up2_j (by decide)]
    have e2 : rvk (up2 A 35 34 (A 35 34 + 1)) = fun b => A 52 b != 0 := by
      funext b
      unfold rvk
      rw [up2_o (by decide)]
    rw [e, e2]
    exact cn_len _ _ _ hb
  have e36 : up2 A 35 34 (A 35 34 + 1) 36 = A 36 := up2_rown (by decide)
  have key : JN (tcA A + rcA A) (A 36) J (recJ (up2 A 35 34 (A 35 34 + 1)) J sz un) := by
    refine ⟨?_, fun p q y => ?_⟩
    · show J.2.2.1 + cn (tch (up2 A 35 34 (A 35 34 + 1))) 0 (blk (up2 A 35 34 (A 35 34 + 1))) + cn (rvk (up2 A 35 34 (A 35 34 + 1))) 0 (blk (up2 A 35 34 (A 35 34 + 1))) ≤ _
      omega
    · have y : J.2.2.2 p q ∨ (p = un ∧ q = up2 A 35 34 (A 35 34 + 1) 36) := y
      rcases y with y | y
      · exact Or.inl ⟨p, y⟩
      · exact Or.inr (by rw [y.2, e36])
  unfold cm1X
  cases lgX sz 0 sz (up2 A 35 34 (A 35 34 + 1)) with
  | inl B => exact key
  | inr B => exact key
end XUS
