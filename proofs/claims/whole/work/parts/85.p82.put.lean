/-! ===== PURE: the class's Disk: keepOldest, losePower, act, put ===== -/
/-- the disks are alike; the slot x waits for its bytes -/
def DRx (bi sp : Nat → Nat) (C : tS) (D : tD) (A : tS) (x : Nat) : Prop :=
  (C 1 8 = 34 + A 35 6 + A 35 7 ∧ C 1 9 = A 35 15 ∧ C 1 10 = A 35 16 ∧ C 1 11 = A 35 20 ∧ C 1 12 = A 35 21 ∧ C 1 13 = A 35 19 ∧ C 1 14 = A 35 18) ∧
  (∀ i, i < A 35 16 → (A 35 15 + i) % 256 ≠ x → SL bi sp C D A ((A 35 15 + i) % 256)) ∧
  (x < 256 → C 6 x = A 42 x ∧ C 7 x = tgA bi sp (A 43 x) (A 44 x) ∧ C 9 x = 0) ∧
  (∀ b, b < 6130 → KB bi sp C D A b) ∧ (∀ b, b < 6130 → C 4 b = vsN A b) ∧ (∀ b, b < 6130 → C 5 b = A 46 b)
abbrev DR (bi sp : Nat → Nat) (C : tS) (D : tD) (A : tS) : Prop := DRx bi sp C D A 256
/-- only the disk's cells are touched -/
def cO (C C' : tS) : Prop := ∀ p, p ≠ 1 → p ≠ 2 → p ≠ 4 → p ≠ 5 → p ≠ 6 → p ≠ 7 → p ≠ 9 → C' p = C p
section DM
variable {b0 fu : Nat} {σ τ : tM} {A B : tS} {C C' : tS} {D D' D'' : tD} {bi sp : Nat → Nat} {K : Nat}
theorem cO_r (C : tS) : cO C C := fun _ _ _ _ _ _ _ _ => rfl
theorem cO_t {C'' : tS} (h : cO C C') (k : cO C' C'') : cO C C'' := fun p h1 h2 h3 h4 h5 h6 h7 => (k p h1 h2 h3 h4 h5 h6 h7).trans (h p h1 h2 h3 h4 h5 h6 h7)
theorem cO_up {o j x : Nat} (ho : o = 1 ∨ o = 2 ∨ o = 4 ∨ o = 5 ∨ o = 6 ∨ o = 7 ∨ o = 9) (h : cO C C') : cO C (up2 C' o j x) := fun p h1 h2 h3 h4 h5 h6 h7 => by
  rw [up2_rown (by omega)]
  exact h p h1 h2 h3 h4 h5 h6 h7
theorem cn_shift {p : Nat → Bool} : ∀ m k, cn p (k + 1) m = cn (fun i => p (i + 1)) k m
  | 0, _ => rfl
  | m + 1, k => by
    unfold cn
    rw [cn_shift m (k + 1)]
theorem cn_snoc {p : Nat → Bool} : ∀ m k, cn p k (m + 1) = cn p k m + (if p (k + m) = true then 1 else 0)
  | 0, k => by
    show (if p k = true then 1 else 0) + 0 = 0 + _
    rw [Nat.add_zero, Nat.zero_add, Nat.add_zero]
  | m + 1, k => by
    have h1 : cn p k (m + 1 + 1) = (if p k = true then 1 else 0) + cn p (k + 1) (m + 1) := rfl
    have h2 : cn p k (m + 1) = (if p k = true then 1 else 0) + cn p (k + 1) m := rfl
    rw [h1, cn_snoc m (k + 1), h2, show k + 1 + m = k + (m + 1) by omega]
    omega
theorem vs_ko {b : Nat} (h5 : A 35 15 < 256) (h6 : 0 < A 35 16) : vsN A b = (if A 42 (A 35 15) = b then 1 else 0) + vsN (koA A) b := by
  obtain ⟨m, hm⟩ : ∃ m, A 35 16 = m + 1 := ⟨A 35 16 - 1, by omega⟩
  unfold vsN
  rw [koA_16, koA_15, hm, Nat.add_sub_cancel]
  show (if (A 42 ((A 35 15 + 0) % 256) == b) = true then 1 else 0) + cn (fun i => A 42 ((A 35 15 + i) % 256) == b) (0 + 1) m = _
  rw [cn_shift, Nat.add_zero, Nat.mod_eq_of_lt h5]
  have e1 : (if (A 42 (A 35 15) == b) = true then 1 else 0) = (if A 42 (A 35 15) = b then 1 else 0) := by
    by_cases c : A 42 (A 35 15) = b
    · rw [if_pos c, if_pos (by simp [c])]
    · rw [if_neg c, if_neg (by simp [c])]
  rw [e1]
  congr 1
  refine cn_congr _ _ (fun i _ _ => ?_)
  rw [koA_o A _ (by decide) (by decide) (by decide) (by decide), show A 35 15 + (i + 1) = A 35 15 + 1 + i by omega, show ((A 35 15 + 1) % 256 + i) % 256 = (A 35 15 + 1 + i) % 256 by omega]
theorem keepOldest_c (h : CM b0 σ C D) (hR : DR bi sp C D A) (hd : dsk A K) (h0 : 0 < A 35 16) : wp (FC b0) σ (m_X0_keepOldest b0 fu (b0 + 1) σ) (fun _ τ => ∃ C' D', CM b0 τ C' D' ∧ DR bi sp C' D' (koA A) ∧ cO C C' ∧ JP D D' ∧ EP D D' 0 0) := by
  obtain ⟨⟨r1, r2, r3, r4, r5, r6, r7⟩, rs, -, rk, rc, rch⟩ := hR
  obtain ⟨d1, d2, d3, d4, d5, d6, d7⟩ := hd
  have L := h.lay
  have o0 := d7 0 h0
  rw [Nat.add_zero, Nat.mod_eq_of_lt d3] at o0
  have s0 := rs 0 h0 (by omega)
  rw [Nat.add_zero, Nat.mod_eq_of_lt d3] at s0
  have hb : A 42 (A 35 15) < 6130 := by have := o0.1; omega
  refine wp_grw (FC_good b0) ?_
  rw [ckC_1 L, cf_1_9 h.ca, r2]
  refine wp_bind (FC_good b0) (keep_c (fu := fu) (bi := bi) (sp := sp) (A := A) h d3 hb o0.2 s0 rk) ?_
  rintro _ ρ ⟨D', q1, q2, q3, q5, q6⟩
  generalize hC : up2 C 2 (A 42 (A 35 15)) (C 7 (A 35 15)) = C1 at q1 q5 q6
  have c1 : ∀ p, p ≠ 2 → C1 p = C p := fun p hp => by rw [← hC, up2_rown hp]
  have L1 := q1.lay
  have v0 : C 4 (A 42 (A 35 15)) = 1 + vsN (koA A) (A 42 (A 35 15)) := by rw [rc _ hb, vs_ko d3 h0, if_pos rfl]
  have vb : vsN (koA A) (A 42 (A 35 15)) ≤ 256 := Nat.le_trans (cn_le _ _ _) (by rw [koA_16]; omega)
  rw [ckC_1 L1, osm_p (rfC_1_2 L1), osm_p (rfC_1_4 L1), ckC_6 L1, cf_1_9 q1.ca, c1 1 (by decide), r2, ckI_n d3 (by omega), nI_cl (by omega), cd_6 q1.ca, c1 6 (by decide), s0.1, ckC_4 L1, ckI_n hb (by omega), ckI_n hb (by omega), nI_cl (by omega), cd_4 q1.ca, c1 4 (by decide), ltb_def, v0, show nI (1 + vsN (koA A) (A 42 (A 35 15))) - (1 : Int32) = nI (vsN (koA A) (A 42 (A 35 15))) from by rw [show (1 : Int32) = nI 1 from rfl, nI_sb (by omega)]; congr 1; omega]
  have k1 : CM b0 (sI ρ (b0 + 4) (A 42 (A 35 15)) (nI (vsN (koA A) (A 42 (A 35 15))))) (up2 C1 4 (A 42 (A 35 15)) (vsN (koA A) (A 42 (A 35 15)))) D' := CM_fix (o := 4) q1 rfl rfl (by show _ < 2147483648; omega)
  rw [cf_1_9 k1.ca, up2_o (by decide), c1 1 (by decide), r2, show nI (A 35 15) + (1 : Int32) = nI (A 35 15 + 1) from nI_add _ 1, show nI (A 35 15 + 1) - nI (A 35 15 + 1) / (256 : Int32) * (256 : Int32) = nI ((A 35 15 + 1) % 256) from pk_rem (d := 256) (by omega) (by omega) (by omega)]
  have m1 : (A 35 15 + 1) % 256 < 256 := Nat.mod_lt _ (by omega)
  have k2 := CM_fix (o := 1) (j := 9) (x := (A 35 15 + 1) % 256) (v := nI ((A 35 15 + 1) % 256)) k1 rfl rfl (by show _ < 2147483648; omega)
  rw [cf_1_10 k2.ca, up2_j (by decide), up2_o (by decide), c1 1 (by decide), r3, show nI (A 35 16) - (1 : Int32) = nI (A 35 16 - 1) from nI_sb (b := 1) (by omega)]
  have k3 := CM_fix (o := 1) (j := 10) (x := A 35 16 - 1) (v := nI (A 35 16 - 1)) k2 rfl rfl (by show _ < 2147483648; omega)
  refine wp_ret (FC_2 (FC_sI q1.rf (by omega)) (FC_2 (FC_sI k1.rf (by omega)) (FC_sI k2.rf (by omega)))) ⟨_, D', k3, ?_, ?_, q2, q3⟩
  · generalize hX : up2 (up2 (up2 C1 4 (A 42 (A 35 15)) (vsN (koA A) (A 42 (A 35 15)))) 1 9 ((A 35 15 + 1) % 256)) 1 10 (A 35 16 - 1) = X
    have x1 : ∀ q, q ≠ 9 → q ≠ 10 → X 1 q = C 1 q := fun q e1 e2 => by rw [← hX, up2_j e2, up2_j e1, up2_o (by decide), c1 1 (by decide)]
    have xo : ∀ p, p ≠ 1 → p ≠ 4 → X p = C1 p := fun p e1 e2 => by rw [← hX, up2_rown e1, up2_rown e1, up2_rown e2]
    have o35 : ∀ j, j ≠ 15 → j ≠ 16 → koA A 35 j = A 35 j := fun j e1 e2 => koA_35 A j e1 e2
    refine ⟨⟨?_, ?_, ?_, ?_, ?_, ?_, ?_⟩, fun i hi _ => ?_, fun q => by omega, fun b hb2 => ?_, fun b hb2 => ?_, fun b hb2 => ?_⟩
    · rw [x1 8 (by decide) (by decide), o35 6 (by decide) (by decide), o35 7 (by decide) (by decide)]
      exact r1
    · rw [← hX, up2_j (by decide), up2_s, koA_15]
    · rw [← hX, up2_s, koA_16]
    · rw [x1 11 (by decide) (by decide), o35 20 (by decide) (by decide)]
      exact r4
    · rw [x1 12 (by decide) (by decide), o35 21 (by decide) (by decide)]
      exact r5
    · rw [x1 13 (by decide) (by decide), o35 19 (by decide) (by decide)]
      exact r6
    · rw [x1 14 (by decide) (by decide), o35 18 (by decide) (by decide)]
      exact r7
    · rw [koA_16] at hi
      rw [koA_15, show ((A 35 15 + 1) % 256 + i) % 256 = (A 35 15 + (i + 1)) % 256 by omega]
      have := q6 ((A 35 15 + (i + 1)) % 256) (Nat.mod_lt _ (by omega)) (by omega) (rs (i + 1) (by omega) (by have := Nat.mod_lt (A 35 15 + (i + 1)) (show 0 < 256 by omega); omega))
      unfold SL at this ⊢
      rw [xo 6 (by decide) (by decide), xo 7 (by decide) (by decide), xo 9 (by decide) (by decide)]
      have e : ∀ o, o ≠ 35 → koA A o = kpA A (A 35 15) o := fun o ho => by unfold koA; rw [up2_rown ho, up2_rown ho]
      rw [e 42 (by decide), e 43 (by decide), e 44 (by decide), e 45 (by decide)]
      exact this
    · have := q5 b hb2
      unfold KB at this ⊢
      have e : ∀ o, o ≠ 35 → koA A o = kpA A (A 35 15) o := fun o ho => by unfold koA; rw [up2_rown ho, up2_rown ho]
      rw [xo 2 (by decide) (by decide), e 39 (by decide), e 40 (by decide), e 41 (by decide), o35 6 (by decide) (by decide)]
      rw [kpA_35] at this
      exact this
    · have x4 : X 4 b = if b = A 42 (A 35 15) then vsN (koA A) (A 42 (A 35 15)) else C 4 b := by
        rw [← hX, up2_o (by decide), up2_o (by decide)]
        by_cases c : b = A 42 (A 35 15)
        · rw [if_pos c, c, up2_s]
        · rw [if_neg c, up2_j c, c1 4 (by decide)]
      rw [x4]
      by_cases c : b = A 42 (A 35 15)
      · rw [if_pos c, c]
      · rw [if_neg c, rc b hb2, vs_ko d3 h0, if_neg (fun e => c e.symm), Nat.zero_add]
    · rw [xo 5 (by decide) (by decide), c1 5 (by decide), koA_o A _ (by decide) (by decide) (by decide) (by decide)]
      exact rch b hb2
  · refine cO_up (by omega) (cO_up (by omega) (cO_up (by omega) ?_))
    rw [← hC]
    exact cO_up (by omega) (cO_r C)
end DM
