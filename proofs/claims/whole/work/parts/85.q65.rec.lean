/-! ===== PURE: a record more, in the reference; its relation ===== -/
section RCJ
variable {Φ : tPh} {bi sp sp1 : Nat → Nat} {w : Nat → Nat × Nat} {C C' : tS} {D D' : tD} {A B : tS} {J J' : tJ} {n m k sz un : Nat}
theorem cn_surj {p : Nat → Bool} : ∀ m i, i < cn p 0 m → ∃ b, b < m ∧ p b = true ∧ cn p 0 b = i
  | 0, i, h => absurd h (Nat.not_lt_zero _)
  | m + 1, i, h => by
    rw [cn_1] at h
    by_cases c : i < cn p 0 m
    · obtain ⟨b, b1, b2, b3⟩ := cn_surj m i c
      exact ⟨b, by omega, b2, b3⟩
    · by_cases d : p m = true
      · rw [if_pos d] at h
        exact ⟨m, by omega, d, by omega⟩
      · rw [if_neg d] at h
        omega
/-- what record leaves -/
theorem rec_f : (∀ f i, 37 ≤ f → f ≤ 43 → i ≠ J.2.1 → (recJ A J sz un).1 f i = J.1 f i) ∧ ((recJ A J sz un).1 37 J.2.1 = A 35 34 ∧ (recJ A J sz un).1 38 J.2.1 = A 35 33 ∧ (recJ A J sz un).1 39 J.2.1 = sz ∧ (recJ A J sz un).1 40 J.2.1 = un ∧ (recJ A J sz un).1 41 J.2.1 = J.2.2.1 ∧ (recJ A J sz un).1 42 J.2.1 = cn (tch A) 0 (blk A) ∧ (recJ A J sz un).1 43 J.2.1 = cn (rvk A) 0 (blk A)) ∧
    ((∀ i, i < J.2.2.1 → (recJ A J sz un).1 44 i = J.1 44 i) ∧ (∀ b, b < blk A → tch A b = true → (recJ A J sz un).1 44 (J.2.2.1 + cn (tch A) 0 b) = b) ∧ (∀ b, b < blk A → rvk A b = true → (recJ A J sz un).1 44 (J.2.2.1 + cn (tch A) 0 (blk A) + cn (rvk A) 0 b) = b)) ∧
    (recJ A J sz un).2.1 = J.2.1 + 1 ∧ (recJ A J sz un).2.2.1 = J.2.2.1 + cn (tch A) 0 (blk A) + cn (rvk A) 0 (blk A) ∧ (∀ p s, (recJ A J sz un).2.2.2 p s ↔ J.2.2.2 p s ∨ (p = un ∧ s = A 36)) := by
  have e : ∀ f i, f ≠ 44 → (recJ A J sz un).1 f i = up2 (up2 (rcB A J.1 J.2.1 J.2.2.1 sz un) 42 J.2.1 (cn (tch A) 0 (blk A))) 43 J.2.1 (cn (rvk A) 0 (blk A)) f i := fun f i hf => by
    show recB A J.1 J.2.1 J.2.2.1 sz un f i = _
    unfold recB rc3 rc2
    unfold up2
    by_cases c : f = 43
    · simp only [if_pos c, lsB_o hf]
    · simp only [if_neg c, lsB_o hf]
  have e44 : ∀ i, (recJ A J sz un).1 44 i = lsB (rvk A) 0 (blk A) (up2 (lsB (tch A) 0 (blk A) (rcB A J.1 J.2.1 J.2.2.1 sz un) J.2.2.1) 42 J.2.1 (cn (tch A) 0 (blk A))) (J.2.2.1 + cn (tch A) 0 (blk A)) 44 i := fun i => by
    show recB A J.1 J.2.1 J.2.2.1 sz un 44 i = _
    unfold recB rc3 rc2
    rw [up2_o (by decide)]
  have r44 : ∀ i, rcB A J.1 J.2.1 J.2.2.1 sz un 44 i = J.1 44 i := fun i => by
    unfold rcB
    rw [up2_o (by decide), up2_o (by decide), up2_o (by decide), up2_o (by decide), up2_o (by decide)]
  obtain ⟨a1, a2, a3⟩ := lsB_at (p := tch A) (blk A) 0 (rcB A J.1 J.2.1 J.2.2.1 sz un) J.2.2.1
  obtain ⟨b1, b2, b3⟩ := lsB_at (p := rvk A) (blk A) 0 (up2 (lsB (tch A) 0 (blk A) (rcB A J.1 J.2.1 J.2.2.1 sz un) J.2.2.1) 42 J.2.1 (cn (tch A) 0 (blk A))) (J.2.2.1 + cn (tch A) 0 (blk A))
  have z0 : ∀ p : Nat → Bool, cn p 0 0 = 0 := fun _ => rfl
  refine ⟨fun f i h1 h2 hi => ?_, ⟨?_, ?_, ?_, ?_, ?_, ?_, ?_⟩, ⟨fun i hi => ?_, fun b hb ht => ?_, fun b hb ht => ?_⟩, rfl, rfl, fun p s => Iff.rfl⟩
  · rw [e f i (by omega), up2_j hi, up2_j hi]
    unfold rcB
    rw [up2_j hi, up2_j hi, up2_j hi, up2_j hi, up2_j hi]
  · rw [e _ _ (by decide), up2_o (by decide), up2_o (by decide)]
    unfold rcB
    rw [up2_o (by decide), up2_o (by decide), up2_o (by decide), up2_o (by decide), up2_s]
  · rw [e _ _ (by decide), up2_o (by decide), up2_o (by decide)]
    unfold rcB
    rw [up2_o (by decide), up2_o (by decide), up2_o (by decide), up2_s]
  · rw [e _ _ (by decide), up2_o (by decide), up2_o (by decide)]
    unfold rcB
    rw [up2_o (by decide), up2_o (by decide), up2_s]
  · rw [e _ _ (by decide), up2_o (by decide), up2_o (by decide)]
    unfold rcB
    rw [up2_o (by decide), up2_s]
  · rw [e _ _ (by decide), up2_o (by decide), up2_o (by decide)]
    unfold rcB
    rw [up2_s]
  · rw [e _ _ (by decide), up2_o (by decide), up2_s]
  · rw [e _ _ (by decide), up2_s]
  · rw [e44, b1 i (by omega), up2_o (by decide), a1 i hi, r44]
  · have := a2 b (Nat.zero_le _) (by omega) ht
    rw [z0, Nat.sub_zero] at this
    rw [e44, b1 _ (by have := cn_lt hb ht; omega), up2_o (by decide)]
    exact this
  · have := b2 b (Nat.zero_le _) (by omega) ht
    rw [z0, Nat.sub_zero] at this
    rw [e44]
    exact this
/-- stamps with a new one: what is on the disk keeps its tags -/
theorem DR_sp (h : DR bi sp C D A) (hg : AV (fun _ w i => w = 2 → sp1 i = sp i) A) : DR bi sp1 C D A := by
  obtain ⟨r1, r2, r3, r4, r5, r6⟩ := h
  have tg : ∀ w i, (w = 2 → sp1 i = sp i) → tgA bi sp1 w i = tgA bi sp w i := fun w i e => by
    unfold tgA
    by_cases c0 : w = 0
    · rw [if_pos c0, if_pos c0]
    · by_cases c1 : w = 1
      · rw [if_neg c0, if_neg c0, if_pos c1, if_pos c1]
      · by_cases c2 : w = 2
        · rw [if_neg c0, if_neg c0, if_neg c1, if_neg c1, if_pos c2, if_pos c2, e c2]
        · rw [if_neg c0, if_neg c0, if_neg c1, if_neg c1, if_neg c2, if_neg c2]
  refine ⟨r1, fun i hi hx => ?_, fun hx => by omega, fun b hb => ?_, r5, r6⟩
  · obtain ⟨s1, s2, s3, s4⟩ := r2 i hi hx
    have t := tg (A 43 ((A 35 15 + i) % 256)) (A 44 ((A 35 15 + i) % 256)) (hg.2 i hi)
    exact ⟨s1, by rw [t]; exact s2, s3, s4⟩
  · obtain ⟨s1, s2⟩ := r4 b hb
    exact ⟨by rw [tg _ _ (hg.1 b (by omega))]; exact s1, s2⟩
theorem SR_ser (h : SR bi w C A) : SR bi w C (up2 A 35 34 (A 35 34 + 1)) := by
  have bo : ∀ o, o ≠ 35 → up2 A 35 34 (A 35 34 + 1) o = A o := fun o ho => up2_rown ho
  have b35 : ∀ q, q ≠ 34 → up2 A 35 34 (A 35 34 + 1) 35 q = A 35 q := fun q hq => up2_j hq
  have B36 := bo 36 (by decide)
  refine ⟨h.rk, ?_, MR_36 B36 h.mr, ?_, ?_, ?_, ?_, ?_⟩
  · have := h.ti
    unfold TI slo hasA leafA us nd pt eZ at this ⊢
    rw [B36, b35 7 (by decide)]
    exact this
  · have := h.fb
    unfold FB us nd at this ⊢
    rw [B36, bo 47 (by decide)]
    exact this
  · obtain ⟨j1, j2, j3, j4⟩ := h.bj
    refine ⟨fun x => ⟨(j1 x).1, ?_⟩, fun x hx => j2 x ?_, j3, ?_⟩
    · have := (j1 x).2
      rw [up2_s]
      omega
    · rw [up2_s] at hx
      omega
    · unfold us se at j4 ⊢
      rw [B36]
      exact j4
  · have := h.zm
    unfold ZM us nbA se at this ⊢
    rw [B36, b35 6 (by decide), b35 7 (by decide), b35 28 (by decide), bo 49 (by decide), bo 51 (by decide), bo 52 (by decide), bo 48 (by decide), bo 50 (by decide), bo 71 (by decide)]
    exact this
  · have := h.ok
    unfold okT at this ⊢
    rw [B36]
    exact this
  · have := h.gh
    unfold GH us nd at this ⊢
    rw [B36, b35 7 (by decide), bo 49 (by decide), bo 48 (by decide)]
    exact this
theorem mod_ne {a x y L : Nat} (h : x < y) (h2 : y - x < L) : (a + x) % L ≠ (a + y) % L := by
  intro e
  have e1 := Nat.div_add_mod (a + x) L
  have e2 := Nat.div_add_mod (a + y) L
  rw [e] at e1
  generalize (a + x) / L = q1 at e1
  generalize (a + y) / L = q2 at e2
  by_cases c : q1 < q2
  · have : L * (q1 + 1) ≤ L * q2 := Nat.mul_le_mul_left L c
    rw [Nat.mul_add, Nat.mul_one] at this
    omega
  · have : L * q2 ≤ L * q1 := Nat.mul_le_mul_left L (by omega)
    omega
theorem szL_mono (X : tS) {k m : Nat} (h : k ≤ m) : szL X 0 k ≤ szL X 0 m := by
  obtain ⟨d, rfl⟩ : ∃ d, m = k + d := ⟨m - k, by omega⟩
  rw [szL_add]
  omega
theorem szL_1 (X : tS) (k : Nat) : szL X 0 (k + 1) = szL X 0 k + X 39 k := by
  rw [szL_add, Nat.zero_add]
  rfl
/-- the place behind the log's transactions is none of theirs -/
theorem ring_ne (hg : JG A J) (hl : 0 < A 35 6) {k i j : Nat} (hk : k < A 35 28 - A 35 35) (hi : i < J.1 39 k) (hj : szL J.1 0 (A 35 28 - A 35 35) + j < A 35 6) : whB A J k i ≠ 34 + (A 35 33 + j) % A 35 6 := by
  obtain ⟨g1, g2, g3⟩ := hg
  unfold whB
  rw [g1 k hk, g2, Nat.mod_add_mod, Nat.mod_add_mod, Nat.add_assoc, Nat.add_assoc]
  have a := szL_1 J.1 k
  have b := szL_mono J.1 (show k + 1 ≤ A 35 28 - A 35 35 by omega)
  intro e
  exact mod_ne (a := A 35 46) (x := szL J.1 0 k + i) (y := szL J.1 0 (A 35 28 - A 35 35) + j) (L := A 35 6) (by omega) (by omega) (by omega)
end RCJ
