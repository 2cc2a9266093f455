/-! ===== PURE: an entry removed, in both: bare blocks at the end go ===== -/
section SRT
variable {bi : Nat → Nat} {w : Nat → Nat × Nat} {C A B X : tS} {W V : Nat → Nat} {n s i : Nat} {me : Bool}
theorem bare_iff {d m r : Nat} (hr : hasA A d m = r + 1) : bareA A d m = true ↔ ∀ k, k < 8 → eZ A r k 0 = 64 := by
  have e : ∀ k, k < 8 → eN A d (8 * m + k) = eZ A r k 0 := fun k hk => by
    unfold eN
    rw [e_eZ (A := A) (d := d) (k := 8 * m + k) (v := 0), show (8 * m + k) / 8 = m by omega, hr, show (8 * m + k) % 8 = k by omega]
    rfl
  unfold bareA
  rw [decide_eq_true_iff]
  constructor
  · intro h k hk
    have := sr_no (fun k => eN A d k != 64) 8 (8 * m) (8 * m + k) (by omega) (by omega)
    rw [e k hk] at this
    simpa using this
  · intro h
    have a := sr_le (fun k => eN A d k != 64) 8 (8 * m)
    by_cases c : sr (fun k => eN A d k != 64) (8 * m) 8 < 8 * m + 8
    · have b := sr_is (fun k => eN A d k != 64) 8 (8 * m) c
      obtain ⟨k, hk⟩ : ∃ k, sr (fun k => eN A d k != 64) (8 * m) 8 = 8 * m + k := ⟨sr (fun k => eN A d k != 64) (8 * m) 8 - 8 * m, by omega⟩
      rw [hk] at b
      have := h k (by omega)
      rw [← e k (by omega)] at this
      simp [this] at b
    · omega
/-- both find a directory's block bare, or not -/
theorem bare_c {d m r : Nat} (h : SR bi w C A) (hd : d < 64) (hk2 : nd A d 0 = 2) (hm : m < 1064) (hr : hasA A d m = r + 1) (hl : ∀ k, k < 8 → eZ A r k 0 ≠ 64 → 1 ≤ eZ A r k 1) : zfC C (ptC C d m % 2048) 0 = true ↔ bareA A d m = true := by
  obtain ⟨r', q1, rlt, hu, hw, hcl, h7⟩ := cell_c h hd (by omega) hm (by rw [hr]; omega)
  have er : r' = r := by omega
  subst er
  have r2 : r' < 2000 := by have := h.zm.1.2.2.2.1; omega
  have bw := (h.mr.2.2.2 r' r2 hu).2 (by rw [hw]; show m < 2000; omega) (by rw [hw]; exact hk2)
  rw [hcl, bare_iff hr, zf_iff]
  constructor
  · intro q k hk
    refine Classical.byContradiction (fun z => ?_)
    have a := (bw k hk).2 z
    have b := q (k * 32 + 28) (by omega) (Nat.zero_le _)
    rw [oc_o h7, a.1] at b
    have := hl k hk z
    omega
  · intro q j hj _
    rw [oc_o h7]
    refine oW_0 ?_
    have := (bw (j / 32) (by omega)).1 (q (j / 32) (by omega)) (j / 8 % 4) (by omega)
    rwa [show (34 + r') * 32 + j / 32 * 4 + j / 8 % 4 = (34 + r') * 32 + j / 8 by omega] at this
theorem SR_rml {d : Nat} (hd : d < 64) : ∀ m (C A : tS), SR bi w C A → nd A d 0 = 2 → m ≤ 1064 → (∀ i, i < m → hasA A d i ≠ 0) → (∀ i r, i < m → hasA A d i = r + 1 → ∀ k, k < 8 → eZ A r k 0 ≠ 64 → 1 ≤ eZ A r k 1) → SR bi w (rmL d m C) (remL d m A) ∧ (TF A → TF (remL d m A)) ∧ (∀ q, remL d m A 35 q = A 35 q) ∧ fre (remL d m A) = fre A ∧ rmL d m C 10 15 = C 10 15 ∧ (∀ n' j, n' < 64 → j < 85 → ¬ (n' = d ∧ j = 1) → nd (remL d m A) n' j = nd A n' j) ∧ (∀ r k i, k < 8 → i < 30 → eZ (remL d m A) r k i = eZ A r k i)
  | 0, C, A, h, _, _, _, _ => ⟨h, fun t => t, fun _ => rfl, rfl, rfl, fun _ _ _ _ _ => rfl, fun _ _ _ _ _ => rfl⟩
  | m + 1, C, A, h, hk2, hm, hh, hl => by
    obtain ⟨r, hr⟩ : ∃ r, hasA A d m = r + 1 := by
      have := hh m (by omega)
      exact ⟨hasA A d m - 1, by omega⟩
    have bc := bare_c h hd hk2 (by omega) hr (hl m r (by omega) hr)
    show SR bi w (if zfC C (ptC C d m % 2048) 0 then _ else C) (if bareA A d m then remL d m (setN (dropA A d m) d 1 (256 * m)) else A) ∧ (TF A → TF (if bareA A d m then remL d m (setN (dropA A d m) d 1 (256 * m)) else A)) ∧ (∀ q, (if bareA A d m then remL d m (setN (dropA A d m) d 1 (256 * m)) else A) 35 q = A 35 q) ∧ fre (if bareA A d m then remL d m (setN (dropA A d m) d 1 (256 * m)) else A) = fre A ∧ (if zfC C (ptC C d m % 2048) 0 then rmL d m (shC (drT C d m) d (kiC (drT C d m) d) (naC (drT C d m) d) (prC (drT C d m) d) (m * 256)) else C) 10 15 = C 10 15 ∧ (∀ n' j, n' < 64 → j < 85 → ¬ (n' = d ∧ j = 1) → nd (if bareA A d m then remL d m (setN (dropA A d m) d 1 (256 * m)) else A) n' j = nd A n' j) ∧ (∀ r k i, k < 8 → i < 30 → eZ (if bareA A d m then remL d m (setN (dropA A d m) d 1 (256 * m)) else A) r k i = eZ A r k i)
    by_cases c : bareA A d m = true
    · rw [if_pos c, if_pos (bc.mpr c)]
      obtain ⟨g1, g2, g3, g4, g5⟩ := SR_drop (i := m) h hd (Or.inr hk2) (by omega) (fun _ r' hr' => by rw [hr] at hr'; rw [show r' = r by omega]; exact (bare_iff hr).mp c)
      have k0 : nd (dropA A d m) d 0 = 2 := by rw [g4.2.2.2.1 d 0 hd (by omega)]; exact hk2
      obtain ⟨a0, a1⟩ := hd_c g1.ok g1.mr hd
      obtain ⟨a1, a2, a3⟩ := a1 (by omega)
      obtain ⟨r1, r2, r3, r4, r5⟩ := setN_r (A := dropA A d m) (n := d) (v := 256 * m) (x := 1) hd (by omega) (by omega)
      have H : SR bi w (shC (drT C d m) d (kiC (drT C d m) d) (naC (drT C d m) d) (prC (drT C d m) d) (m * 256)) (setN (dropA A d m) d 1 (256 * m)) := by
        refine SR_hdr g1 hd r1 r2 r3 (by omega) (okT_sz g1.ok hd (by omega)) ?_ ?_ ?_ ?_
        · rw [a0, r4 d 0 (by omega), if_neg (by omega)]
        · rw [a1, r4 d 2 (by omega), if_neg (by omega)]
        · rw [a2, r4 d 3 (by omega), if_neg (by omega)]
        · have x0 : nd (setN (dropA A d m) d 1 (256 * m)) d 0 = 2 := by rw [r4 d 0 (by omega), if_neg (by omega)]; exact k0
          have x1 : nd (setN (dropA A d m) d 1 (256 * m)) d 1 = 256 * m := by rw [r4 d 1 (by omega), if_pos ⟨rfl, rfl⟩]
          rw [x0, x1, if_neg (by decide)]
          omega
      have hs : ∀ i, i < m → hasA (setN (dropA A d m) d 1 (256 * m)) d i = hasA A d i := fun i hi => by
        rw [← hs_slo (by omega), r5 d i hd (Or.inl (by omega)), ← hs_slo (A := A) (by omega)]
        rcases g3 d i hd (Or.inl (by omega)) with q | ⟨-, -, q⟩
        · exact q
        · omega
      have ez : ∀ r k i, k < 8 → i < 30 → eZ (setN (dropA A d m) d 1 (256 * m)) r k i = eZ A r k i := fun r k i a b => by
        rw [← g4.2.2.2.2.1 r k i a b]
        unfold eZ
        rw [r1 _ (by omega)]
      have f1 : fre (setN (dropA A d m) d 1 (256 * m)) = fre A := by
        rw [← g4.2.2.1]
        unfold fre frA
        rw [r3 35 (by decide) (by decide), r3 49 (by decide) (by decide)]
        refine cn_congr _ _ (fun r _ _ => ?_)
        rw [r1 _ (by omega)]
      obtain ⟨i1, i2, i3, i4, i5, i6, i7⟩ := SR_rml hd m _ _ H (by rw [r4 d 0 (by omega), if_neg (by omega)]; exact k0) (by omega) (fun i hi => by rw [hs i hi]; exact hh i (by omega)) (fun i r hi q k hk => by rw [hs i hi] at q; rw [ez r k 0 hk (by omega), ez r k 1 hk (by omega)]; exact hl i r (by omega) q k hk)
      refine ⟨i1, fun t => i2 ?_, fun q => by rw [i3, r3 35 (by decide) (by decide), g4.1], by rw [i4, f1], ?_, fun n' j a b e => by rw [i6 n' j a b e, r4 n' j (by omega), if_neg e, g4.2.2.2.1 n' j a b], fun r k i a b => by rw [i7 r k i a b, ez r k i a b]⟩
      · intro n' s' a b e q
        rw [r5 n' s' a b] at q
        obtain ⟨k, y1, y2⟩ := g5 t n' s' a b e q
        exact ⟨k, y1, by rw [r5 n' _ a (chS_ok b e y1).1]; exact y2⟩
      · rw [i5]
        unfold shC
        rw [sn_10 (by decide), g4.2.1]
    · rw [if_neg c, if_neg (fun q => c (bc.mp q))]
      exact ⟨h, fun t => t, fun _ => rfl, rfl, rfl, fun _ _ _ _ _ => rfl, fun _ _ _ _ _ => rfl⟩
end SRT
