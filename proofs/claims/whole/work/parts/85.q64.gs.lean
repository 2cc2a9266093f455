/-! ===== PURE: a group's size and its cells, in both ===== -/
section GSZ
variable {bi sp : Nat → Nat} {w : Nat → Nat × Nat} {C C' : tS} {A B : tS} {c n : Nat}
theorem cn_z {p : Nat → Bool} {a : Nat} : ∀ m, (∀ i, a ≤ i → i < a + m → p i = false) → cn p 0 (a + m) = cn p 0 a
  | 0, _ => rfl
  | m + 1, h => by
    have := cn_1 (p := p) (a + m)
    rw [show a + (m + 1) = a + m + 1 by omega, this, cn_z m (fun i a b => h i a (by omega)), h (a + m) (by omega) (by omega), if_neg (by decide)]
    rfl
theorem tb_eq (z : ∀ c, 1 ≤ c → c < 34 + A 35 7 → (C 15 c = 0 ↔ A 51 (nbA A c) = 0)) (h0 : C 15 0 = 0) (h1 : A 51 0 = 0) (hc : c < 34 + A 35 7) : p15 C c = tch A (nbA A c) := by
  unfold p15 tch
  by_cases e : c = 0
  · rw [e, h0, show nbA A 0 = 0 from rfl, h1]
  · exact bne_e (z c (by omega) hc)
theorem rb_eq (z : ∀ c, 1 ≤ c → c < 34 + A 35 7 → (C 16 c = 0 ↔ A 52 (nbA A c) = 0)) (h0 : C 16 0 = 0) (h1 : A 52 0 = 0) (hc : c < 34 + A 35 7) : p16 C c = rvk A (nbA A c) := by
  unfold p16 rvk
  by_cases e : c = 0
  · rw [e, h0, show nbA A 0 = 0 from rfl, h1]
  · exact bne_e (z c (by omega) hc)
/-- ranks are the same -/
theorem rank_eq {p q : Nat → Bool} (hp : ∀ c, c < 34 + A 35 7 → p c = q (nbA A c)) (hq : ∀ b, 34 ≤ b → b < 34 + A 35 6 → q b = false) : ∀ c, c ≤ 34 + A 35 7 → cn p 0 c = cn q 0 (nbA A c) := by
  intro c
  induction c with
  | zero => exact fun _ => rfl
  | succ c ih =>
    intro hc
    rw [cn_1, ih (by omega), hp c (by omega)]
    have e1 := cn_1 (p := q) (nbA A c)
    rw [← e1]
    unfold nbA
    by_cases d : c + 1 < 34
    · rw [if_pos d, if_pos (by omega)]
    · rw [if_neg d]
      by_cases e : c < 34
      · rw [if_pos e]
        have := cn_z (p := q) (a := c + 1) (A 35 6) (fun i a b => hq i (by omega) (by omega))
        exact this.symm
      · rw [if_neg e]
        congr 1
        omega
theorem gs_parts (h : SR bi w C A) : (∀ c, c ≤ 34 + A 35 7 → cn (p15 C) 0 c = cn (tch A) 0 (nbA A c)) ∧ (∀ c, c ≤ 34 + A 35 7 → cn (p16 C) 0 c = cn (rvk A) 0 (nbA A c)) ∧ C 10 11 = cn (tch A) 0 (blk A) ∧ C 10 12 = cn (rvk A) 0 (blk A) ∧ C 10 11 = tcA A ∧ C 10 12 = rcA A := by
  obtain ⟨⟨z1, z2, z3, z4, z5⟩, z6, z7, z8, z9, -⟩ := h.zm
  obtain ⟨⟨c1, c2, c3⟩, ⟨c4, c5, c6⟩, c7⟩ := h.rk.1
  have t0 := z9 0 (Or.inl rfl)
  have k0 := c7 0 (Or.inl rfl)
  have R1 := rank_eq (A := A) (p := p15 C) (q := tch A) (fun c hc => tb_eq (fun c a b => (z8 c a b).1) k0.1 t0.1 hc) (fun b a b' => by unfold tch; rw [(z9 b (Or.inr (Or.inl ⟨a, b'⟩))).1]; rfl)
  have R2 := rank_eq (A := A) (p := p16 C) (q := rvk A) (fun c hc => rb_eq (fun c a b => (z8 c a b).2) k0.2.1 t0.2 hc) (fun b a b' => by unfold rvk; rw [(z9 b (Or.inr (Or.inl ⟨a, b'⟩))).2]; rfl)
  have eb : nbA A (34 + A 35 7) = blk A := by
    unfold nbA blk
    rw [if_neg (by omega)]
    omega
  have tail : ∀ (p : Nat → Bool) (N : Nat), C 10 7 ≤ N → (∀ c, C 10 7 ≤ c → p c = false) → cn p 0 N = cn p 0 (C 10 7) := fun p N hN hp => by
    obtain ⟨d, rfl⟩ : ∃ d, N = C 10 7 + d := ⟨N - C 10 7, by omega⟩
    exact cn_z d (fun i a _ => hp i a)
  have a1 : C 10 11 = cn (tch A) 0 (blk A) := by
    rw [c4, tail (fun c => C 15 c != 0) 2034 c2 (fun c hc => by rw [(c7 c (Or.inr hc)).1]; rfl), ← eb, ← R1 _ (Nat.le_refl _), z1]
    rfl
  have a2 : C 10 12 = cn (rvk A) 0 (blk A) := by
    rw [c5, tail (fun c => C 16 c != 0) 2034 c2 (fun c hc => by rw [(c7 c (Or.inr hc)).2.1]; rfl), ← eb, ← R2 _ (Nat.le_refl _), z1]
    rfl
  have b1 : tcA A = cn (tch A) 0 (blk A) := by
    show cn (tch A) 0 6200 = _
    obtain ⟨d, hd⟩ : ∃ d, 6200 = blk A + d := ⟨6200 - blk A, by unfold blk; omega⟩
    rw [hd]
    exact cn_z d (fun i a b => by unfold tch; rw [(z9 i (Or.inr (Or.inr ⟨a, by omega⟩))).1]; rfl)
  have b2 : rcA A = cn (rvk A) 0 (blk A) := by
    show cn (rvk A) 0 6200 = _
    obtain ⟨d, hd⟩ : ∃ d, 6200 = blk A + d := ⟨6200 - blk A, by unfold blk; omega⟩
    rw [hd]
    exact cn_z d (fun i a b => by unfold rvk; rw [(z9 i (Or.inr (Or.inr ⟨a, by omega⟩))).2]; rfl)
  exact ⟨R1, R2, a1, a2, by rw [a1, b1], by rw [a2, b2]⟩
theorem gs_eq (h : SR bi w C A) : gpC C = gsA A := by
  obtain ⟨-, -, -, -, e1, e2⟩ := gs_parts h
  unfold gpC gsA
  rw [e1, e2]
/-- a list of numbers, by their ranks -/
theorem lsB_at {p : Nat → Bool} : ∀ m k (B : tS) nl, (∀ i, i < nl → lsB p k m B nl 44 i = B 44 i) ∧ (∀ b, k ≤ b → b < k + m → p b = true → lsB p k m B nl 44 (nl + (cn p 0 b - cn p 0 k)) = b) ∧ (∀ i, nl + (cn p 0 (k + m) - cn p 0 k) ≤ i → lsB p k m B nl 44 i = B 44 i)
  | 0, k, B, nl => ⟨fun _ _ => rfl, fun b a c => by omega, fun _ _ => rfl⟩
  | m + 1, k, B, nl => by
    have e1 := cn_1 (p := p) k
    by_cases c : p k = true
    · have ls : lsB p k (m + 1) B nl = lsB p (k + 1) m (up2 B 44 nl k) (nl + 1) := by
        show (if p k then _ else _) = _
        rw [if_pos c]
      rw [c, if_pos rfl] at e1
      obtain ⟨i1, i2, i3⟩ := lsB_at m (k + 1) (up2 B 44 nl k) (nl + 1)
      rw [ls]
      refine ⟨fun i hi => by rw [i1 i (by omega), up2_j (by omega)], fun b a d hb => ?_, fun i hi => ?_⟩
      · by_cases e : b = k
        · rw [e, show nl + (cn p 0 k - cn p 0 k) = nl by omega, i1 nl (by omega), up2_s]
        · have := i2 b (by omega) (by omega) hb
          have m1 : cn p 0 (k + 1) ≤ cn p 0 b := cn_le2 (by omega)
          rwa [show nl + 1 + (cn p 0 b - cn p 0 (k + 1)) = nl + (cn p 0 b - cn p 0 k) by omega] at this
      · have m1 : cn p 0 (k + 1) ≤ cn p 0 (k + (m + 1)) := cn_le2 (by omega)
        rw [i3 i (by rw [show k + 1 + m = k + (m + 1) by omega]; omega), up2_j (by omega)]
    · have ls : lsB p k (m + 1) B nl = lsB p (k + 1) m B nl := by
        show (if p k then _ else _) = _
        rw [if_neg c]
      rw [if_neg c] at e1
      obtain ⟨i1, i2, i3⟩ := lsB_at m (k + 1) B nl
      rw [ls]
      refine ⟨i1, fun b a d hb => ?_, fun i hi => ?_⟩
      · have e : b ≠ k := fun e => c (e ▸ hb)
        have := i2 b (by omega) (by omega) hb
        rwa [show cn p 0 b - cn p 0 (k + 1) = cn p 0 b - cn p 0 k by omega] at this
      · exact i3 i (by rw [show k + 1 + m = k + (m + 1) by omega]; omega)
end GSZ
