/-! ===== PURE: feed and path, in both ===== -/
section TAP
variable {Φ : tPh} {b0 fu : Nat} {σ τ ρ : tM} {bi sp : Nat → Nat} {w : Nat → Nat × Nat} {C C' X : tS} {D D' : tD} {A B : tS} {J J' : tJ} {K n m k : Nat}
theorem OF_tp (hΦ : goodT Φ) (hok : ∀ w A, Φ w A → okT A) (hTI : ∀ w A, Φ w A → TI w A) (h : OF Φ bi sp C D A J) (hc : ∀ p, ¬ (26 ≤ p ∧ p ≤ 31) → C' p = C p) (ha : ∀ o, o ≠ 35 → ¬ (62 ≤ o ∧ o ≤ 64) → o ≠ 70 → B o = A o) (hf : ∀ q, q ≠ 0 → q ≠ 57 → B 35 q = A 35 q) (T : TP C' B) : OF Φ bi sp C' D B J := by
  have sd : sD A B := ⟨ha 39 (by decide) (by decide) (by decide), ha 40 (by decide) (by decide) (by decide), ha 42 (by decide) (by decide) (by decide), ha 43 (by decide) (by decide) (by decide), ha 44 (by decide) (by decide) (by decide), hf 15 (by decide) (by decide), hf 16 (by decide) (by decide)⟩
  obtain ⟨h1, h2, h3, h4, h5⟩ := h
  have wv : ∀ k i, whB B J k i = whB A J k i := fun k i => by
    unfold whB
    rw [hf 6 (by decide) (by decide)]
  have M : MI bi C' B := by
    obtain ⟨m1, m2, m3, m4⟩ := h1.2.2.2.2.2.2.2.2.1
    unfold MI
    rw [hc 10 (by omega), hc 11 (by omega), hf 6 (by decide) (by decide), hf 7 (by decide) (by decide), hf 34 (by decide) (by decide)]
    exact ⟨ci_cong m1 (fun q _ => by rw [hc 10 (by omega)]) (hc 15 (by omega)) (hc 16 (by omega)) (hc 17 (by omega)), m2, m3, m4⟩
  refine ⟨CO_mem hΦ hok hTI h1 (fun p hp => hc p (by omega)) (fun _ _ => rfl) (fun o a b => ha o (by omega) (by omega) (by omega)) (fun q a _ c => hf q a (by omega)) (by rw [hf 34 (by decide) (by decide)]; exact Nat.le_refl _) M T, by rw [hf 18 (by decide) (by decide)]; exact h2, ?_, fun b hb => ?_, fun b hb => by rw [ha 46 (by decide) (by decide) (by decide)]; exact h5 b hb⟩
  · unfold UNF
    rw [hf 28 (by decide) (by decide), hf 35 (by decide) (by decide)]
    rcases h3 with q | ⟨q1, i, q2, q3⟩
    · exact Or.inl q
    · refine Or.inr ⟨q1, i, q2, ?_⟩
      rw [wv]
      exact AV_sD sd q3
  · have : vsN B b = vsN A b := by
      unfold vsN
      rw [ha 42 (by decide) (by decide) (by decide), hf 15 (by decide) (by decide), hf 16 (by decide) (by decide)]
    rw [ha 46 (by decide) (by decide) (by decide), this]
    exact h4 b hb
theorem ST_tp (hΦ : goodT Φ) (hok : ∀ w A, Φ w A → okT A) (hTI : ∀ w A, Φ w A → TI w A) (h : ST Φ bi sp w C D A J) (hc : ∀ p, ¬ (26 ≤ p ∧ p ≤ 31) → C' p = C p) (ha : ∀ o, o ≠ 35 → ¬ (62 ≤ o ∧ o ≤ 64) → o ≠ 70 → B o = A o) (hf : ∀ q, q ≠ 0 → q ≠ 57 → B 35 q = A 35 q) (T : TP C' B) : ST Φ bi sp w C' D B J := by
  rcases h with h | h
  · exact Or.inl (RO_tp hΦ hok hTI h hc ha hf T)
  · exact Or.inr (OF_tp hΦ hok hTI h hc ha hf T)
theorem ST_TP (h : ST Φ bi sp w C D A J) : TP C A := by
  rcases h with h | h
  · exact h.1.2.2.2.2.2.2.2.2.2
  · exact h.1.2.2.2.2.2.2.2.2.2
theorem feA_o {v : Nat → Int32} : (∀ o, o ≠ 35 → o ≠ 70 → (feA v A).2 o = A o) ∧ (∀ q, q ≠ 0 → q ≠ 57 → (feA v A).2 35 q = A 35 q) ∧ (feA v A).2 35 0 = 0 ∧ (A 35 57 ≤ 4000 → (feA v A).2 35 57 ≤ 4000) := by
  unfold feA
  by_cases c : 4000 < A 35 57 + 20
  · rw [if_pos c]
    exact ⟨fun o a _ => up2_rown a, fun q a _ => (show up2 A 35 0 0 35 q = A 35 q from up2_j a), (show up2 A 35 0 0 35 0 = 0 from up2_s _ _ _ _), fun h => by
      show up2 A 35 0 0 35 57 ≤ 4000
      rw [up2_j (by decide)]
      exact h⟩
  · rw [if_neg c]
    refine ⟨fun o a b => ?_, fun q a b => ?_, ?_, fun h => ?_⟩
    · funext j
      show up2 (fdN v (A 35 57) 20 0 (up2 A 35 0 0)) 35 57 (A 35 57 + 20) o j = A o j
      rw [up2_o a, fdN_at, if_neg (fun e => b e.1), up2_o a]
    · show up2 (fdN v (A 35 57) 20 0 (up2 A 35 0 0)) 35 57 (A 35 57 + 20) 35 q = A 35 q
      rw [up2_j b, fdN_at, if_neg (fun e => by omega), up2_j a]
    · show up2 (fdN v (A 35 57) 20 0 (up2 A 35 0 0)) 35 57 (A 35 57 + 20) 35 0 = 0
      rw [up2_j (by decide), fdN_at, if_neg (fun e => by omega), up2_s]
    · show up2 (fdN v (A 35 57) 20 0 (up2 A 35 0 0)) 35 57 (A 35 57 + 20) 35 57 ≤ 4000
      rw [up2_s]
      omega
theorem feed_st {a b c d e : Int32} (hΦ : goodT Φ) (hok : ∀ w A, Φ w A → okT A) (hTI : ∀ w A, Φ w A → TI w A) (h : CM b0 σ C D) (hR : ST Φ bi sp w C D A J) (h4 : A 35 57 ≤ 4000) (hu : 100 ≤ fu) : wp (FC b0) σ (m_X10_feed b0 fu (b0 + 0) a b c d e σ) (fun v τ => NZ Φ b0 bi sp w D J v τ (feA (v5 a b c d e) A)) := by
  refine wp_mono (feed_c (fu := fu) h (ST_TP hR) h4 hu) (fun v τ _ q => ?_)
  obtain ⟨e1, C', q1, q2, q3⟩ := q
  obtain ⟨o1, o2, o3, -⟩ := feA_o (A := A) (v := v5 a b c d e)
  exact ⟨e1, o3, C', q1, ST_tp hΦ hok hTI hR (fun p hp => q3 p (by omega) (by omega)) (fun o x _ y => o1 o x y) o2 q2⟩
theorem ptA_o {x y : Int32} : (∀ o, o ≠ 35 → ¬ (62 ≤ o ∧ o ≤ 64) → (ptA x y A).2 o = A o) ∧ (∀ q, q ≠ 0 → q ≠ 57 → (ptA x y A).2 35 q = A 35 q) ∧ (ptA x y A).2 35 0 = 0 ∧ (ptA x y A).2 35 57 = 0 := by
  have p1 : ∀ o, o ≠ 35 → paB A o = A o := fun o a => by
    unfold paB
    rw [up2_rown a, up2_rown a]
  have p2 : ∀ q, q ≠ 0 → q ≠ 57 → paB A 35 q = A 35 q := fun q a b => by
    unfold paB
    rw [up2_j b, up2_j a]
  have p3 : paB A 35 0 = 0 := by
    unfold paB
    rw [up2_j (by decide), up2_s]
  have p4 : paB A 35 57 = 0 := by
    unfold paB
    rw [up2_s]
  unfold ptA
  by_cases c : x < 0 ∨ (1 : Int32) < x ∨ y < 0 ∨ (120 : Int32) < y ∨ A 35 57 < y.toNatClampNeg ∨ sr (fun k => !prN A k) 0 y.toNatClampNeg < y.toNatClampNeg
  · rw [if_pos c]
    exact ⟨fun o a _ => p1 o a, p2, p3, p4⟩
  · rw [if_neg c]
    have x2 : x.toNatClampNeg < 2 := by
      have c0 : ¬ x < 0 := fun q => c (Or.inl q)
      obtain ⟨m, hm, rfl⟩ := nI_of c0
      rw [nI_cl hm]
      rcases Nat.lt_or_ge m 2 with q | q
      · exact q
      · exact absurd (Or.inr (Or.inl ((nI_ltP (a := 1) (b := m) (by omega) hm).mpr (by omega)))) c
    refine ⟨fun o a b => ?_, fun q a b => ?_, ?_, ?_⟩
    · dsimp only
      rw [up2_rown (by omega), upR_nn (by omega)]
      exact p1 o a
    · dsimp only
      rw [up2_rown (by omega), upR_nn (by omega)]
      exact p2 q a b
    · dsimp only
      rw [up2_rown (by omega), upR_nn (by omega)]
      exact p3
    · dsimp only
      rw [up2_rown (by omega), upR_nn (by omega)]
      exact p4
theorem path_st {x y : Int32} (hΦ : goodT Φ) (hok : ∀ w A, Φ w A → okT A) (hTI : ∀ w A, Φ w A → TI w A) (h : CM b0 σ C D) (hR : ST Φ bi sp w C D A J) (h4 : A 35 57 ≤ 4000) (hu : 300 ≤ fu) : wp (FC b0) σ (m_X10_path b0 fu (b0 + 0) x y σ) (fun v τ => NZ Φ b0 bi sp w D J v τ (ptA x y A)) := by
  refine wp_mono (path_c (fu := fu) h (ST_TP hR) h4 hu) (fun v τ _ q => ?_)
  obtain ⟨e1, C', q1, q2, q3⟩ := q
  obtain ⟨o1, o2, o3, -⟩ := ptA_o (A := A) (x := x) (y := y)
  exact ⟨e1, o3, C', q1, ST_tp hΦ hok hTI hR (fun p hp => q3 p (by omega) (by omega) (by omega) (by omega) (by omega)) (fun o a b _ => o1 o a b) o2 q2⟩
/-- paths stay fit -/
theorem pat_fe {v : Nat → Int32} (h : patOk A) : patOk (feA v A).2 := by
  obtain ⟨o1, -⟩ := feA_o (A := A) (v := v)
  intro w hw
  rw [o1 64 (by decide) (by decide), o1 (62 + w) (by omega) (by omega)]
  exact h w hw
theorem pat_pt {x y : Int32} (h : patOk A) : patOk (ptA x y A).2 := by
  unfold ptA
  by_cases c : x < 0 ∨ (1 : Int32) < x ∨ y < 0 ∨ (120 : Int32) < y ∨ A 35 57 < y.toNatClampNeg ∨ sr (fun k => !prN A k) 0 y.toNatClampNeg < y.toNatClampNeg
  · rw [if_pos c]
    intro w hw
    show paB A 64 w ≤ 120 ∧ ∀ i, i < paB A 64 w → 33 ≤ paB A (62 + w) i ∧ paB A (62 + w) i ≤ 126
    unfold paB
    rw [up2_rown (by decide), up2_rown (by decide), up2_rown (by omega), up2_rown (by omega)]
    exact h w hw
  · rw [if_neg c]
    have c0 : ¬ x < 0 := fun q => c (Or.inl q)
    have c2 : ¬ y < 0 := fun q => c (Or.inr (Or.inr (Or.inl q)))
    have c3 : ¬ (120 : Int32) < y := fun q => c (Or.inr (Or.inr (Or.inr (Or.inl q))))
    have c5 : ¬ sr (fun k => !prN A k) 0 y.toNatClampNeg < y.toNatClampNeg := fun q => c (Or.inr (Or.inr (Or.inr (Or.inr (Or.inr q)))))
    obtain ⟨l, hl, rfl⟩ := nI_of c2
    rw [nI_cl hl] at c5 ⊢
    have l120 : l ≤ 120 := by
      rcases Nat.lt_or_ge 120 l with q | q
      · exact absurd ((nI_ltP (a := 120) (b := l) (by omega) hl).mpr q) c3
      · exact q
    have pr := (sr_all (p := fun k => !prN A k) l 0).mp (by omega)
    intro w hw
    by_cases cw : w = x.toNatClampNeg
    · subst cw
      dsimp only
      rw [up2_s, up2_rown (by omega), upR_ss]
      refine ⟨l120, fun i hi => ?_⟩
      show 33 ≤ (if i < l then A 70 i else _) ∧ (if i < l then A 70 i else _) ≤ 126
      rw [if_pos hi]
      have := pr i (Nat.zero_le _) (by omega)
      have p : prN A i = true := by simpa using this
      unfold prN at p
      rw [Bool.and_eq_true] at p
      exact ⟨of_decide_eq_true p.1, of_decide_eq_true p.2⟩
    · have e64 : up2 (upR (paB A) (62 + x.toNatClampNeg) (fun j => if j < l then A 70 j else A (62 + x.toNatClampNeg) j)) 64 x.toNatClampNeg l 64 w = A 64 w := by
        rw [up2_j cw]
        by_cases d : 64 = 62 + x.toNatClampNeg
        · exfalso
          have c1 : ¬ (1 : Int32) < x := fun q => c (Or.inr (Or.inl q))
          obtain ⟨m, hm, rfl⟩ := nI_of c0
          rw [nI_cl hm] at d
          exact c1 ((nI_ltP (a := 1) (b := m) (by omega) hm).mpr (by omega))
        · rw [upR_nn d]
          unfold paB
          rw [up2_rown (by decide), up2_rown (by decide)]
      have e62 : up2 (upR (paB A) (62 + x.toNatClampNeg) (fun j => if j < l then A 70 j else A (62 + x.toNatClampNeg) j)) 64 x.toNatClampNeg l (62 + w) = A (62 + w) := by
        rw [up2_rown (by omega), upR_nn (by omega)]
        unfold paB
        rw [up2_rown (by omega), up2_rown (by omega)]
      show up2 (upR (paB A) (62 + x.toNatClampNeg) (fun j => if j < l then A 70 j else A (62 + x.toNatClampNeg) j)) 64 x.toNatClampNeg l 64 w ≤ 120 ∧ ∀ i, i < up2 (upR (paB A) (62 + x.toNatClampNeg) (fun j => if j < l then A 70 j else A (62 + x.toNatClampNeg) j)) 64 x.toNatClampNeg l 64 w → 33 ≤ up2 (upR (paB A) (62 + x.toNatClampNeg) (fun j => if j < l then A 70 j else A (62 + x.toNatClampNeg) j)) 64 x.toNatClampNeg l (62 + w) i ∧ up2 (upR (paB A) (62 + x.toNatClampNeg) (fun j => if j < l then A 70 j else A (62 + x.toNatClampNeg) j)) 64 x.toNatClampNeg l (62 + w) i ≤ 126
      rw [e64, e62]
      exact h w hw
end TAP
