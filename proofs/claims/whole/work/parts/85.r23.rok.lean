/-! ===== PURE: what the reference asks for, when an entry or a name goes ===== -/
section ROK
variable {bi : Nat → Nat} {w w' : Nat → Nat × Nat} {C X A B : tS} {t n m k d r x : Nat}
theorem rem_ok (hd : d < 64) : ∀ m (C A : tS), SR bi w C A → nd A d 0 = 2 → m ≤ 1064 → (∀ i, i < m → hasA A d i ≠ 0) → A 35 34 < 1000000 → remOk d m A
  | 0, _, _, _, _, _, _, _ => trivial
  | m + 1, C, A, h, hk2, hm, hh, h34 => by
    obtain ⟨r, hr⟩ : ∃ r, hasA A d m = r + 1 := by
      have := hh m (by omega)
      exact ⟨hasA A d m - 1, by omega⟩
    refine ⟨hh m (by omega), drop_ok h.ti h.ok hd (by omega), okS_of h h34, fun c => ?_⟩
    have bz := (bare_iff hr).mp c
    obtain ⟨g1, g2, g3, g4, g5⟩ := SR_drop (i := m) h hd (Or.inr hk2) (by omega) (fun _ r' hr' => by rw [hr] at hr'; rw [show r' = r by omega]; exact bz)
    have k0 : nd (dropA A d m) d 0 = 2 := by rw [g4.2.2.2.1 d 0 hd (by omega)]; exact hk2
    obtain ⟨a0, a1⟩ := hd_c g1.ok g1.mr hd
    obtain ⟨a1, a2, a3⟩ := a1 (by omega)
    obtain ⟨r1, r2, r3, r4, r5⟩ := setN_r (A := dropA A d m) (n := d) (v := 256 * m) (x := 1) hd (by omega) (by omega)
    have H : SR bi w (shC (drT C d m) d (kiC (drT C d m) d) (naC (drT C d m) d) (prC (drT C d m) d) (m * 256)) (setN (dropA A d m) d 1 (256 * m)) := by
      refine SR_hdr g1 hd r1 r2 r3 (by omega) (okT_sz g1.ok hd (by omega)) ?_ ?_ ?_ ?_
      · rw [a0, r4 d 0 (by omega), if_neg (by omega)]
      · rw [a1, r4 d 2 (by omega), if_neg (by omega)]
      · rw [a2, r4 d 3 (by omega), if_neg (by omega)]
      · have x0 : nd (setN (dropA A d m) d 1 (256 * m)) d 0 = 2 := by rw [r4 d 0 (by omega), if_neg (by omega)]; exact k0
        have x1 : nd (setN (dropA A d m) d 1 (256 * m)) d 1 = 256 * m := by rw [r4 d 1 (by omega), if_pos ⟨rfl, rfl⟩]
        rw [x0, x1, if_neg (by decide)]
        omega
    refine rem_ok hd m _ _ H (by rw [r4 d 0 (by omega), if_neg (by omega)]; exact k0) (by omega) (fun i hi => ?_) (by rw [r3 35 (by decide) (by decide), g4.1 34]; exact h34)
    rw [← hs_slo (by omega), r5 d i hd (Or.inl (by omega))]
    rcases g3 d i hd (Or.inl (by omega)) with q | ⟨-, -, q⟩
    · rw [q, hs_slo (by omega)]
      exact hh i (by omega)
    · omega
theorem re_ok (S : SR bi w C A) (P : PH t w A) (ht : t ≤ 64) (hd : d < 64) (h2 : nd A d 0 = 2) (hk : k < eAll A d) (h34 : A 35 34 < 1000000) : reOk A d k := by
  obtain ⟨l1, l2⟩ := eA_lt S.ok hd hk
  have z3 := (P.di.1 d hd h2).2.2
  have sz := (P.sf d hd h2).1
  have b1 := (nd_k S.ok hd).2.1
  obtain ⟨r, hr⟩ : ∃ r, hasA A d (k / 8) = r + 1 := ⟨hasA A d (k / 8) - 1, by have := z3 _ l1; omega⟩
  obtain ⟨g1, g2, g3, g4, g5⟩ := SR_clr S hd h2 l2 hr
  have e1 : nd (putE A d k 64) d 1 = nd A d 1 := g3 d 1 hd (by omega)
  refine ⟨okS_of S h34, by omega, ?_⟩
  rw [e1]
  refine rem_ok hd _ _ _ g1 (by rw [g3 d 0 hd (by omega)]; exact h2) (by omega) (fun i hi => ?_) (by rw [g5 35 (by decide) (by decide)]; exact h34)
  rw [← hs_slo (by omega), g4 d i hd (Or.inl (by omega)), hs_slo (by omega)]
  exact z3 i hi
/-- a name goes -/
theorem lo_ok (S : SR bi w C A) (S2 : SR bi w X (setN A x 2 (nd A x 2 - 1))) (h1 : 1 ≤ nd A x 2) (hx : x < 64) (h34 : A 35 34 < 1000000) : loOk A x := by
  have e34 : setN A x 2 (nd A x 2 - 1) 35 34 = A 35 34 := by
    unfold setN
    rw [up2_o (by decide), up2_o (by decide)]
  exact ⟨h1, mf1_ok S2 hx (by rw [e34]; exact h34)⟩
theorem ul_ok (S : SR bi w C A) (P : PH t w A) (ht : t ≤ 64) (hd : d < 64) (h2 : nd A d 0 = 2) (h34 : A 35 34 < 1000000) : ulOk A d := by
  intro hk hk2
  have n1 : eN A d (kf A d) < 64 := eN_f S.ok (by unfold kf at hk; omega)
  have n0 := (P.di.2.1 d _ hd h2 hk (by omega)).1
  have kb := (nd_k S.ok n1).1
  obtain ⟨f1, f2, f3, ⟨f4, f5, f6⟩, f7⟩ := PH_unl (k := kf A d) (x := eN A d (kf A d)) S P hd h2 hk rfl (by omega) (by omega)
  refine ⟨re_ok S P ht hd h2 hk h34, ?_⟩
  rw [← f4] at f1 f6
  refine lo_ok f7 f1 f6 n1 ?_
  have := (rem_all S P.tf P.di hd h2 hk).1
  rw [(SR_rem S P.di hd h2 hk).2.2.1 34]
  exact h34
theorem rd_ok (S : SR bi w C A) (P : PH t w A) (ht : t ≤ 64) (hd : d < 64) (h2 : nd A d 0 = 2) (h34 : A 35 34 < 1000000) : rdOk A d := fun hk _ _ => re_ok S P ht hd h2 hk h34
end ROK
