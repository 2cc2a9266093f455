/-! ===== PURE: what the reference asks for: flush, checkpoint, commit ===== -/
section JOK
variable {Φ : tPh} {b0 : Nat} {σ : tM} {bi sp : Nat → Nat} {w : Nat → Nat × Nat} {C : tS} {D : tD} {A B : tS} {J : tJ} {K t un n m : Nat}
theorem fl_ok (hR : RO Φ bi sp w C D A J) (hd : dsk A (K + 2)) (hn : A 35 28 < 65) : flOk A J := by
  obtain ⟨⟨r1, r2, r3, r4, r5, r6, r7, r8, r9, r10⟩, hSR, hT, hLc, hHc, hgh, hon, hnr, h46⟩ := hR
  have jo := r2.2.2.1
  unfold JO at jo
  obtain ⟨l1, l2, l3, l4, l5⟩ := r3
  have h5 := hd.2.2.1
  refine ⟨dsk_le hd (by omega), fun A1 e => ?_⟩
  by_cases c : A 35 19 = 1
  · have ex : fluX A = .inr (powA A) := if_pos c
    rw [ex] at e
    cases e
  have ex : fluX A = .inl (fluA A) := if_neg c
  rw [ex] at e
  have e : fluA A = A1 := by
    cases e
    rfl
  subst e
  have e1 : ∀ q, q ≤ 14 ∨ 22 ≤ q → fluA A 35 q = A 35 q := fun q hq => (dk_flu h5).2 q (by omega) (by omega) (by omega) (by omega) (by omega) (by omega)
  have f0 : ∀ q, q ≤ 14 ∨ 22 ≤ q → fl0 (fluA A) 35 q = if q = 32 then A 35 31 else if q = 29 then A 35 28 else A 35 q := fun q hq => by
    unfold fl0
    by_cases c1 : q = 32
    · rw [c1, up2_s, if_pos rfl, e1 31 (by omega)]
    · rw [up2_j c1, if_neg c1]
      by_cases c2 : q = 29
      · rw [c2, up2_s, if_pos rfl, e1 28 (by omega)]
      · rw [up2_j c2, if_neg c2, e1 q hq]
  have g6 : fl0 (fluA A) 35 6 = A 35 6 := by rw [f0 6 (by omega), if_neg (by decide), if_neg (by decide)]
  have g35 : fl0 (fluA A) 35 35 = A 35 35 := by rw [f0 35 (by omega), if_neg (by decide), if_neg (by decide)]
  have g32 : fl0 (fluA A) 35 32 = A 35 31 := by rw [f0 32 (by omega), if_pos rfl]
  have g31 : fl0 (fluA A) 35 31 = A 35 31 := by rw [f0 31 (by omega), if_neg (by decide), if_neg (by decide)]
  have g30 : fl0 (fluA A) 35 30 = A 35 30 := by rw [f0 30 (by omega), if_neg (by decide), if_neg (by decide)]
  have g29 : fl0 (fluA A) 35 29 = A 35 28 := by rw [f0 29 (by omega), if_neg (by decide), if_pos rfl]
  have g28 : fl0 (fluA A) 35 28 = A 35 28 := by rw [f0 28 (by omega), if_neg (by decide), if_neg (by decide)]
  refine ⟨?_, ?_⟩
  · unfold jw
    rw [g6, g35, g32, g31, g30, g29, g28]
    refine ⟨by omega, by omega, Nat.le_refl _, by omega, by omega, Nat.le_refl _, by omega, by omega, by omega, l5, fun q => ?_, l1, l2, fun i hi => ?_⟩
    · obtain ⟨s, w', k1, -⟩ := r4 (A 35 28) (by omega) (Nat.le_refl _)
      unfold udC at k1
      rw [if_pos q] at k1
      exact ⟨s, k1⟩
    · have := l4 i hi
      omega
  · obtain ⟨x1, x2, x3⟩ := fl1_f (A := fluA A)
    have xb : fl1 (fluA A) 35 35 = A 35 35 := by rw [x2, if_neg (by decide), if_neg (by decide), e1 35 (by omega)]
    have xt : fl1 (fluA A) 35 32 = A 35 31 := by rw [x2, if_pos rfl, e1 31 (by omega)]
    obtain ⟨y1, y2, y3, y4⟩ := fgA_f (A := fl1 (fluA A)) (J := J) (by rw [xb, xt]; omega)
    have F : ∀ q, q ≠ 29 → q ≠ 32 → q ≠ 35 → q ≠ 46 → fgA (fl1 (fluA A)) J 35 q = fluA A 35 q := fun q a b c d => by rw [y2 q d c, x2, if_neg b, if_neg a]
    have Ro : ∀ o, o ≠ 35 → o ≠ 49 → fgA (fl1 (fluA A)) J o = fluA A o := fun o a b => by rw [y1 o a, x1 o a b]
    exact dsk_le (dsk_cg (dsk_flu (K := K + 1) hd) (fun q hq => F q (by omega) (by omega) (by omega) (by omega)) (Ro 42 (by decide) (by decide)) (Ro 43 (by decide) (by decide))) (by omega)
theorem ap_ok (hR : RO Φ bi sp w C D A J) (hd : dsk A (K + 2100)) (h3 : A 35 30 < A 35 29) : apOk A J := by
  obtain ⟨⟨r1, r2, r3, r4, r5, r6, r7, r8, r9, r10⟩, hSR, hT, hLc, hHc, hgh, hon, hnr, h46⟩ := hR
  have jo := r2.2.2.1
  unfold JO at jo
  obtain ⟨l1, l2, l3, l4, l5⟩ := r3
  have d1 := r2.2.1.1
  have d2 := r2.2.1.2
  have tr := r2.2.2.2.2.2 (A 35 30 + 1) (by omega) (by omega)
  have b8 := tr.2.2.2.2.2.2.2.1
  have e8 : dT D 8 (A 35 30 + 1) = J.1 42 (A 35 30 - A 35 35) := by rw [tr.1.2.2.2.2.1, show A 35 30 + 1 - A 35 35 - 1 = A 35 30 - A 35 35 by omega]
  refine ⟨l2, by omega, by omega, by omega, dsk_le hd (by omega), fun i hi => l3 _ ?_⟩
  have := l2 (A 35 30 - A 35 35) (by omega)
  omega
theorem apN_ok (hΦ : goodT Φ) (hok : ∀ w A, Φ w A → okT A) : ∀ m (σ : tM) (C : tS) (D : tD) (A : tS), CM b0 σ C D → RO Φ bi sp w C D A J → A 35 29 - A 35 30 = m → m ≤ 64 → dsk A (K + 134400 * m) → apNok J m A
  | 0, _, _, _, _, _, _, _, _, _ => trivial
  | m + 1, σ, C, D, A, h, hR, he, hm, hd => by
    refine ⟨ap_ok (K := K) hR (dsk_le hd (by omega)) (by omega), by omega, fun B hB => ?_⟩
    have aN : apN J 1 A = .inl B := by
      show bX (applyX A J) (apN J 0) = .inl B
      rw [hB]
      rfl
    obtain ⟨f1, f2⟩ := apN_f 1 A B aN
    refine ⟨f2 29 (by decide) (by omega), f1, ?_⟩
    obtain ⟨v, τ, -, -, q⟩ := applySome_c (fu := 3000) (K := K + 134400 * m) (most := 1) hΦ hok (by omega) (by omega) h hR (dsk_le hd (by omega))
    rw [show min 1 (A 35 29 - A 35 30) = 1 by omega, aN] at q
    obtain ⟨-, C2, D2, q1, q2, -, q4⟩ := q
    exact apN_ok hΦ hok m τ C2 D2 B q1 q2 (by rw [f2 29 (by decide) (by omega), f1]; omega) (by omega) q4
theorem ck_ok (hΦ : goodT Φ) (hok : ∀ w A, Φ w A → okT A) (h : CM b0 σ C D) (hR : RO Φ bi sp w C D A J) (hd : dsk A (K + 8700000)) (hn : A 35 28 < 64) : ckOk_ A J := by
  refine ⟨fl_ok (K := K) hR (dsk_le hd (by omega)) (by omega), fun s1 e1 => ?_⟩
  obtain ⟨ρ1, C1, D1, a1, a2⟩ := fl_RO (K := K + 8699998) hΦ hok h hR hd e1
  have jo1 := a2.1.2.1.2.2.1
  unfold JO at jo1
  obtain ⟨d1, k28, k29, k30, k32, k35, k31, -, -⟩ := flX_f (K := K + 8699998) hd hR.1.2.1.2.2.1 e1
  refine ⟨apN_ok (K := K) hΦ hok _ ρ1 C1 D1 s1.1 a1 a2 rfl (by omega) (dsk_le d1 (by omega)), by omega, by omega, fun B eB => ?_⟩
  obtain ⟨v, τ, -, -, q⟩ := applySome_c (fu := 3000) (K := K + 4) (most := 1000000) hΦ hok (by omega) (by omega) a1 a2 (dsk_le d1 (by omega))
  rw [show min 1000000 (s1.1 35 29 - s1.1 35 30) = s1.1 35 29 - s1.1 35 30 by omega, eB] at q
  obtain ⟨-, C2, D2, q1, q2, -, q4⟩ := q
  have b28 : B 35 28 = s1.1 35 28 := (apN_f _ _ _ eB).2 28 (by decide) (by omega)
  refine ⟨fl_ok (K := K + 2) q2 q4 (by omega), fun s2 e2 => ?_⟩
  obtain ⟨ρ3, C3, D3, b1, b2⟩ := fl_RO (K := K + 2) hΦ hok q1 q2 q4 e2
  obtain ⟨d3, k28', -⟩ := flX_f (K := K + 2) q4 q2.1.2.1.2.2.1 e2
  exact fl_ok (K := K) b2 d3 (by omega)
/-- what a transaction's record asks for -/
theorem cm1_ok {sz : Nat} (hR : RO Φ bi sp w C D A J) (hd : dsk A (K + sz + 1)) (hn : A 35 28 < 64) (hl : J.2.2.1 + 12300 < 262144) (h34 : A 35 34 + 1 < 1000000) (hs : sz < 100000) : cm1Ok A J sz := by
  obtain ⟨⟨r1, r2, r3, r4, r5, r6, r7, r8, r9, r10⟩, hSR, hT, hLc, hHc, hgh, hon, hnr, h46⟩ := hR
  have jo := r2.2.2.1
  unfold JO at jo
  have jg := r2.2.2.2.1
  have b33 : A 35 33 < A 35 6 := by
    rw [jg.2.1]
    exact Nat.mod_lt _ (by omega)
  have bk : blk A = 34 + A 35 6 + A 35 7 := rfl
  exact ⟨by omega, by omega, by omega, h34, dsk_le hd (by omega), by omega, by omega, hs, by omega⟩
end JOK
