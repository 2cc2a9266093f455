/-! ===== PURE: what the relation does not speak of; a dirty block written, in both ===== -/
/-- the relation's cells are the same -/
def sC (A B : tS) : Prop := (∀ o, o = 36 ∨ (39 ≤ o ∧ o ≤ 52) ∨ o = 62 ∨ o = 63 ∨ o = 64 ∨ o = 70 ∨ o = 71 → B o = A o) ∧ ∀ q, q ≠ 0 → q ≠ 51 → q ≠ 53 → B 35 q = A 35 q
section WDS
variable {Φ : tPh} {b0 fu : Nat} {σ τ : tM} {bi sp : Nat → Nat} {w : Nat → Nat × Nat} {C C' X : tS} {D D' D'' : tD} {A B : tS} {J J' : tJ} {K n m k r : Nat}
theorem sC_r : sC A A := ⟨fun _ _ => rfl, fun _ _ _ _ => rfl⟩
theorem sC_sD (h : sC A B) : sD A B := ⟨h.1 39 (by omega), h.1 40 (by omega), h.1 42 (by omega), h.1 43 (by omega), h.1 44 (by omega), h.2 15 (by decide) (by decide) (by decide), h.2 16 (by decide) (by decide) (by decide)⟩
theorem CO_scr (hΦ : goodT Φ) (hok : ∀ w A, Φ w A → okT A) (h : CO Φ bi sp C D A J) (s : sC A B) : CO Φ bi sp C D B J := by
  have sd := sC_sD s
  obtain ⟨so, sf⟩ := s
  obtain ⟨r1, r2, r3, r4, r5, r6, r7, r8, r9, r10⟩ := h
  have f : ∀ q, q ≠ 0 → q ≤ 50 → B 35 q = A 35 q := fun q a b => sf q a (by omega) (by omega)
  have jo := r2.2.2.1
  unfold JO at jo
  refine ⟨DR_all r1 (fun _ _ => rfl) rfl rfl (fun _ _ _ _ _ _ => rfl) (fun o a b => so o (by omega)) (fun q hq => f q (by omega) (by omega)), JR_all r2 (fun _ => rfl) ⟨rfl, rfl, rfl, rfl⟩ (fun q hq => f q (by omega) (by omega)), ?_, CT_all hΦ r4 (fun q hq => f q (by omega) (by omega)) (fun _ _ _ _ => rfl) hok (by omega), LGd_dk r5 (fun q hq => f q (by omega) (by omega)) (fun k i _ _ x => ⟨NV_sD sd x, cur_sD sd⟩), ?_, ?_, ?_, ?_, TP_all r10 (fun _ _ => rfl) (fun o ho => so o (by omega)) (sf 57 (by decide) (by decide) (by decide))⟩
  · unfold JL
    rw [f 6 (by decide) (by decide), f 7 (by decide) (by decide)]
    exact r3
  · have := AV_sD sd r6
    unfold HDd
    rw [f 35 (by decide) (by decide), f 28 (by decide) (by decide)]
    exact this
  · have := AV_sD sd r7
    unfold RG
    rw [f 6 (by decide) (by decide), f 7 (by decide) (by decide), f 34 (by decide) (by decide)]
    exact this
  · unfold SPJ
    rw [f 34 (by decide) (by decide)]
    exact r8
  · unfold MI
    rw [f 6 (by decide) (by decide), f 7 (by decide) (by decide), f 34 (by decide) (by decide)]
    exact r9
theorem RO_scr (hΦ : goodT Φ) (hok : ∀ w A, Φ w A → okT A) (h : RO Φ bi sp w C D A J) (s : sC A B) : RO Φ bi sp w C D B J := by
  have sd := sC_sD s
  obtain ⟨hCO, hSR, hT, hLc, hHc, hgh, hon, hnr, h46⟩ := h
  have f : ∀ q, q ≠ 0 → q ≤ 50 → B 35 q = A 35 q := fun q a b => s.2 q a (by omega) (by omega)
  refine ⟨CO_scr hΦ hok hCO s, SR_oth hSR (fun _ _ _ => rfl) (fun o ho => s.1 o (by omega)) (fun q hq => f q (by omega) (by omega)), hΦ w A B (s.1 36 (by omega)) (f 7 (by decide) (by decide)) hT, fun k i k1 k2 => ?_, ?_, ?_, ?_, ?_, ?_⟩
  · rw [f 28 (by decide) (by decide), f 35 (by decide) (by decide)] at k1
    have wv : whB B J k i = whB A J k i := by unfold whB; rw [f 6 (by decide) (by decide)]
    rw [wv, cur_sD sd]
    exact hLc k i k1 k2
  · unfold HDc
    rw [cur_sD sd, f 31 (by decide) (by decide)]
    exact hHc
  · rw [f 28 (by decide) (by decide), f 35 (by decide) (by decide)]
    exact hgh
  · rw [f 18 (by decide) (by decide)]
    exact hon
  · rw [f 28 (by decide) (by decide), f 35 (by decide) (by decide)]
    exact hnr
  · rw [s.1 46 (by omega)]
    exact h46
theorem OF_scr (hΦ : goodT Φ) (hok : ∀ w A, Φ w A → okT A) (h : OF Φ bi sp C D A J) (s : sC A B) : OF Φ bi sp C D B J := by
  have sd := sC_sD s
  have f : ∀ q, q ≠ 0 → q ≤ 50 → B 35 q = A 35 q := fun q a b => s.2 q a (by omega) (by omega)
  obtain ⟨h1, h2, h3, h4, h5⟩ := h
  have wv : ∀ k i, whB B J k i = whB A J k i := fun k i => by unfold whB; rw [f 6 (by decide) (by decide)]
  refine ⟨CO_scr hΦ hok h1 s, by rw [f 18 (by decide) (by decide)]; exact h2, ?_, fun b hb => ?_, fun b hb => by rw [s.1 46 (by omega)]; exact h5 b hb⟩
  · unfold UNF
    rw [f 28 (by decide) (by decide), f 35 (by decide) (by decide)]
    rcases h3 with q | ⟨q1, i, q2, q3⟩
    · exact Or.inl q
    · refine Or.inr ⟨q1, i, q2, ?_⟩
      rw [wv]
      exact AV_sD sd q3
  · have : vsN B b = vsN A b := by
      unfold vsN
      rw [s.1 42 (by omega), f 15 (by decide) (by decide), f 16 (by decide) (by decide)]
    rw [s.1 46 (by omega), this]
    exact h4 b hb
theorem dsk_scr (h : dsk A K) (s : sC A B) : dsk B K := dsk_cg h (fun q hq => s.2 q (by omega) (by omega) (by omega)) (s.1 42 (by omega)) (s.1 43 (by omega))
/-- a block's mark is taken away, in both -/
theorem cle_f (h7 : 34 + r < C 10 7) : (∀ p, p ≠ 10 → p ≠ 17 → cleC C (34 + r) p = C p) ∧ (∀ q, q ≠ 13 → cleC C (34 + r) 10 q = C 10 q) ∧ (∀ k, cleC C (34 + r) 17 k = if k = 34 + r then 0 else C 17 k) := by
  unfold cleC
  by_cases c : C 17 (34 + r) = 0
  · rw [if_neg (fun q => q.2.2 c)]
    refine ⟨fun _ _ _ => rfl, fun _ _ => rfl, fun k => ?_⟩
    by_cases e : k = 34 + r
    · rw [if_pos e, e]
      exact c
    · rw [if_neg e]
  · rw [if_pos ⟨by omega, h7, c⟩]
    refine ⟨fun p a b => by rw [up2_rown a, up2_rown b], fun q hq => by rw [up2_j hq, up2_o (by decide)], fun k => ?_⟩
    rw [up2_o (by decide)]
    by_cases e : k = 34 + r
    · rw [if_pos e, e, up2_s]
    · rw [if_neg e, up2_j e]
theorem RO_cle (hΦ : goodT Φ) (hok : ∀ w A, Φ w A → okT A) (h : RO Φ bi sp w C D A J) (hr : r < A 35 7) (hd : A 48 r ≠ 0) : RO Φ bi sp w (cleC C (34 + r)) D (up2 A 48 r 0) J := by
  obtain ⟨hCO, hSR, hT, hLc, hHc, hgh, hon, hnr, h46⟩ := h
  have zm := hSR.zm
  have h2 := zm.1.2.2.2.1
  have hu := zm.2.2.2.2.2.2.2.2.2 r hr hd
  obtain ⟨g1, g2⟩ := hSR.gh.2.2.2.2 r hr hd
  obtain ⟨c1, c2, c3⟩ := cle_f (C := C) (r := r) (by rw [zm.1.1]; omega)
  have hci := hSR.rk.1
  have ci2 : ci (cleC C (34 + r)) := ci_cle hci
  have bo : ∀ o, o ≠ 48 → up2 A 48 r 0 o = A o := fun o ho => up2_rown ho
  have sr2 : SR bi w (cleC C (34 + r)) (up2 A 48 r 0) := by
    refine SR_byt hSR (by omega) hu g1 g2 (fun p _ hp => bo p hp) (fun q _ => by rw [bo 47 (by decide)]) (fun q hq => up2_j hq) (fun p a _ c => c1 p a c) c2 (fun q _ => by rw [c1 11 (by decide) (by decide)]) (fun k hk => by rw [c3, if_neg hk]) ?_ ci2 ?_
    · rw [c3, if_pos rfl, up2_s]
    · have := hSR.fb r (by omega) hu g1 g2
      rw [c1 11 (by decide) (by decide), bo 47 (by decide)]
      exact this
  have sd : sD A (up2 A 48 r 0) := ⟨bo _ (by decide), bo _ (by decide), bo _ (by decide), bo _ (by decide), bo _ (by decide), by rw [bo 35 (by decide)], by rw [bo 35 (by decide)]⟩
  obtain ⟨r1, r2, r3, r4, r5, r6, r7, r8, r9, r10⟩ := hCO
  have B35 := bo 35 (by decide)
  have jo := r2.2.2.1
  unfold JO at jo
  have wv : ∀ k i, whB (up2 A 48 r 0) J k i = whB A J k i := fun k i => by unfold whB; rw [B35]
  refine ⟨⟨DR_all r1 (fun p hp => c1 p (by omega) (by omega)) rfl rfl (fun _ _ _ _ _ _ => rfl) (fun o a b => bo o (by omega)) (fun q _ => by rw [B35]), JR_all r2 (fun _ => by rw [c1 20 (by decide) (by decide)]) ⟨rfl, rfl, rfl, rfl⟩ (fun q _ => by rw [B35]), ?_, CT_all hΦ r4 (fun q _ => by rw [B35]) (fun _ _ _ _ => rfl) hok (by omega), LGd_dk r5 (fun q _ => by rw [B35]) (fun k i _ _ x => ⟨NV_sD sd x, cur_sD sd⟩), ?_, ?_, ?_, ?_, TP_all r10 (fun p hp => c1 p (by omega) (by omega)) (fun o ho => bo o (by omega)) (by rw [B35])⟩, sr2, hΦ w A _ (bo 36 (by decide)) (by rw [B35]) hT, fun k i k1 k2 => ?_, ?_, ?_, ?_, ?_, ?_⟩
  · unfold JL
    rw [B35]
    exact r3
  · have := AV_sD sd r6
    unfold HDd
    rw [B35]
    exact this
  · have := AV_sD sd r7
    unfold RG
    rw [B35]
    exact this
  · unfold SPJ
    rw [B35, c1 20 (by decide) (by decide)]
    exact r8
  · obtain ⟨m1, m2, m3, m4⟩ := r9
    unfold MI
    rw [B35, c2 7 (by decide), c2 8 (by decide), c2 15 (by decide), c1 11 (by decide) (by decide)]
    exact ⟨ci2, m2, m3, m4⟩
  · rw [B35] at k1
    rw [wv, cur_sD sd]
    exact hLc k i k1 k2
  · unfold HDc
    rw [cur_sD sd, B35]
    exact hHc
  · rw [c1 100 (by decide) (by decide), B35]
    exact hgh
  · rw [B35]
    exact hon
  · rw [B35]
    exact hnr
  · rw [bo 46 (by decide)]
    exact h46
end WDS
