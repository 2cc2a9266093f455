/-! ===== PURE: a group posted: the relation while its blocks are put ===== -/
/-- j blocks of a transaction of sz are put; its record stands already -/
def PG (Φ : tPh) (bi sp : Nat → Nat) (w : Nat → Nat × Nat) (C : tS) (D : tD) (A : tS) (J : tJ) (sz j : Nat) : Prop :=
  CO Φ bi sp C D A J ∧ SR bi w C A ∧ Φ w A ∧ LGc A J ∧ HDc A ∧ (∀ q, q < 65088 → C 100 q = mW D (A 35 28 - A 35 35) q) ∧ A 35 18 = 1 ∧ J.2.1 = A 35 28 - A 35 35 + 1 ∧ (∀ b, A 46 b = 0) ∧
  (J.1 37 (A 35 28 - A 35 35) = A 35 34 ∧ J.1 38 (A 35 28 - A 35 35) = A 35 33 ∧ J.1 39 (A 35 28 - A 35 35) = sz ∧ szL J.1 0 (A 35 28 - A 35 35) + sz ≤ A 35 6 ∧ 1 ≤ sz) ∧ (C 20 17 = sp (A 35 34) ∧ sp (A 35 34) ≠ 0 ∧ A 35 34 < 1000000) ∧
  (∀ j', j' < j → cur A (34 + (A 35 33 + j') % A 35 6) = (2, A 35 34)) ∧ AV (fun b w i => w = 2 → i = A 35 34 → ∃ j', j' < j ∧ b = 34 + (A 35 33 + j') % A 35 6) A
section POS
variable {Φ : tPh} {b0 fu : Nat} {σ τ : tM} {bi sp : Nat → Nat} {w : Nat → Nat × Nat} {C C' : tS} {D D' : tD} {A B : tS} {J J' : tJ} {K n m k sz un j : Nat}
/-- a record is made, a stamp taken -/
theorem PG_0 (hΦ : goodT Φ) (hok : ∀ w A, Φ w A → okT A) (h : RO Φ bi sp w C D A J) (h1 : 1 ≤ sz) (hf : szL J.1 0 (A 35 28 - A 35 35) + sz ≤ A 35 6) (hun : un < 1000000000) (hst : A 35 34 + 1 < 1000000) :
    PG Φ bi (upN sp (A 35 34 + 1) (C 20 17 + 1)) w (up2 C 20 17 (C 20 17 + 1)) D (up2 A 35 34 (A 35 34 + 1)) (recJ (up2 A 35 34 (A 35 34 + 1)) J sz un) sz 0 := by
  obtain ⟨cO5, sr5, t5, lc5, hc5, gh5, on5, nr5, z5⟩ := h
  obtain ⟨r1, r2, r3, r4, r5, r6, r7, r8, r9, r10⟩ := cO5
  have b35 : ∀ q, q ≠ 34 → up2 A 35 34 (A 35 34 + 1) 35 q = A 35 q := fun q hq => up2_j hq
  have bs : up2 A 35 34 (A 35 34 + 1) 35 34 = A 35 34 + 1 := up2_s _ _ _ _
  have bo : ∀ o, o ≠ 35 → up2 A 35 34 (A 35 34 + 1) o = A o := fun o ho => up2_rown ho
  have c20 : ∀ q, q ≠ 17 → up2 C 20 17 (C 20 17 + 1) 20 q = C 20 q := fun q hq => up2_j hq
  have cs : up2 C 20 17 (C 20 17 + 1) 20 17 = C 20 17 + 1 := up2_s _ _ _ _
  have cp : ∀ p, p ≠ 20 → up2 C 20 17 (C 20 17 + 1) p = C p := fun p hp => up2_rown hp
  have gp := gs_parts sr5
  have tc : tch (up2 A 35 34 (A 35 34 + 1)) = tch A := by funext b; unfold tch; rw [bo 51 (by decide)]
  have rv : rvk (up2 A 35 34 (A 35 34 + 1)) = rvk A := by funext b; unfold rvk; rw [bo 52 (by decide)]
  have bk : blk (up2 A 35 34 (A 35 34 + 1)) = blk A := by unfold blk; rw [b35 6 (by decide), b35 7 (by decide)]
  have sr6 := SR_ser sr5
  obtain ⟨f1, ⟨f2, f3, f4, f5, f6, f7, f8⟩, ⟨f9, f10, f11⟩, f12, f13, f14⟩ := rec_f (A := up2 A 35 34 (A 35 34 + 1)) (J := J) (sz := sz) (un := un)
  rw [bs] at f2
  rw [b35 33 (by decide)] at f3
  rw [tc, bk] at f7 f10 f11 f13
  rw [rv, bk] at f8
  rw [rv] at f11 f13
  rw [bo 36 (by decide)] at f14
  generalize hA1 : up2 A 35 34 (A 35 34 + 1) = A1 at b35 bs bo sr6 f1 f2 f3 f4 f5 f6 f7 f8 f9 f10 f11 f12 f13 f14
  generalize hJ1 : recJ A1 J sz un = J1 at f1 f2 f3 f4 f5 f6 f7 f8 f9 f10 f11 f12 f13 f14
  generalize hC1 : up2 C 20 17 (C 20 17 + 1) = C1 at c20 cs cp
  have sd : sD A A1 := ⟨bo _ (by decide), bo _ (by decide), bo _ (by decide), bo _ (by decide), bo _ (by decide), b35 _ (by decide), b35 _ (by decide)⟩
  have old : ∀ f i, 37 ≤ f → f ≤ 43 → i < J.2.1 → J1.1 f i = J.1 f i := fun f i a b c => f1 f i a b (by omega)
  have wb : ∀ k i, k < A 35 28 - A 35 35 → whB A1 J1 k i = whB A J k i := fun k i hk => by unfold whB; rw [b35 6 (by decide), old 38 k (by omega) (by omega) (by omega)]
  have szo : ∀ m, m ≤ A 35 28 - A 35 35 → szL J1.1 0 m = szL J.1 0 m := fun m hm => szL_cong m 0 0 (fun i hi => by rw [Nat.zero_add, old 39 i (by omega) (by omega) (by omega)])
  obtain ⟨s1, s2, s3, s4⟩ := r8
  have spo : ∀ x, x ≤ A 35 34 → upN sp (A 35 34 + 1) (C 20 17 + 1) x = sp x := fun x hx => if_neg (by omega)
  have spn : upN sp (A 35 34 + 1) (C 20 17 + 1) (A 35 34 + 1) = C 20 17 + 1 := if_pos rfl
  obtain ⟨v1, v2, v3, v4, v5, v6⟩ := r2
  have v30 := v3
  unfold JO at v3
  have sr34 : sz ≤ A 35 6 := by omega
  obtain ⟨l1, l2, l3, l4, l5⟩ := r3
  refine ⟨⟨?_, ⟨?_, ?_, ?_, ?_, ?_, ?_⟩, ⟨?_, ?_, ?_, ?_, ?_⟩, ?_, ?_, ?_, ?_, ?_, ?_, ?_⟩, ?_, ?_, ?_, ?_, ?_, ?_, ?_, ?_, ⟨?_, ?_, ?_, ?_, h1⟩, ⟨?_, ?_, by rw [bs]; exact hst⟩, fun j' hj' => by omega, ?_⟩
  · refine DR_all (DR_sp r1 (AV_mono r7 (fun b w i q e => spo i (q.2.1 e)))) (fun p hp => cp p (by omega)) rfl rfl (fun _ _ _ _ _ _ => rfl) (fun o a b => bo o (by omega)) (fun q hq => b35 q (by omega))
  · unfold JF
    rw [c20 8 (by decide), c20 10 (by decide), c20 11 (by decide), c20 12 (by decide), c20 13 (by decide), c20 14 (by decide), c20 15 (by decide), c20 16 (by decide), b35 6 (by decide), b35 33 (by decide), b35 46 (by decide), b35 28 (by decide), b35 29 (by decide), b35 30 (by decide), b35 31 (by decide), b35 32 (by decide)]
    exact v1
  · rw [b35 35 (by decide), b35 28 (by decide)]
    exact v2
  · unfold JO
    rw [f12, b35 6 (by decide), b35 7 (by decide), b35 28 (by decide), b35 29 (by decide), b35 30 (by decide), b35 31 (by decide), b35 32 (by decide), b35 35 (by decide)]
    omega
  · obtain ⟨g1, g2, g3⟩ := v4
    unfold JG
    rw [b35 6 (by decide), b35 28 (by decide), b35 33 (by decide), b35 35 (by decide), b35 46 (by decide), szo _ (Nat.le_refl _)]
    exact ⟨fun k hk => by rw [old 38 k (by omega) (by omega) (by omega), szo k (by omega)]; exact g1 k hk, g2, g3⟩
  · rw [c20 9 (by decide), b35 28 (by decide), b35 35 (by decide), szo _ (Nat.le_refl _)]
    exact v5
  · intro n n1 n2
    have t := v6 n n1 n2
    have nb : ∀ c, nbA A1 c = nbA A c := fun c => by unfold nbA; rw [b35 6 (by decide)]
    have hk : n - A 35 35 - 1 < J.2.1 := by rw [v2.1] at n1; rw [v2.2] at n2; omega
    have ll := l2 _ hk
    unfold TR at t ⊢
    rw [b35 35 (by decide), b35 6 (by decide), b35 7 (by decide), old 37 _ (by omega) (by omega) hk, old 38 _ (by omega) (by omega) hk, old 39 _ (by omega) (by omega) hk, old 41 _ (by omega) (by omega) hk, old 42 _ (by omega) (by omega) hk, old 43 _ (by omega) (by omega) hk]
    have ne : J.1 37 (n - A 35 35 - 1) ≤ A 35 34 := Classical.byContradiction (fun c => t.1.2.1 (s2 _ (by omega)))
    rw [spo _ ne]
    refine ⟨t.1, fun i hi => ?_, fun i hi => ?_, t.2.2.2⟩
    · rw [nb, f9 _ (by have := t.1.2.2.2.2.1; omega)]
      exact t.2.1 i hi
    · rw [nb, f9 _ (by have := t.1.2.2.2.2.2; omega)]
      exact t.2.2.1 i hi
  · intro i j' a b
    rw [f12] at b
    by_cases c : j' = J.2.1
    · rw [c, f6]
      by_cases d : i = J.2.1
      · rw [d, f6]
        exact Nat.le_refl _
      · rw [old 41 i (by omega) (by omega) (by omega)]
        have := l2 i (by omega)
        omega
    · rw [old 41 i (by omega) (by omega) (by omega), old 41 j' (by omega) (by omega) (by omega)]
      exact l1 i j' a (by omega)
  · intro i hi
    rw [f12] at hi
    rw [f13]
    by_cases c : i = J.2.1
    · rw [c, f6, f7, f8]
      exact Nat.le_refl _
    · rw [old 41 i (by omega) (by omega) (by omega), old 42 i (by omega) (by omega) (by omega), old 43 i (by omega) (by omega) (by omega)]
      have := l2 i (by omega)
      omega
  · intro q hq
    rw [f13] at hq
    rw [b35 6 (by decide), b35 7 (by decide)]
    by_cases c : q < J.2.2.1
    · rw [f9 q c]
      exact l3 q c
    · by_cases d : q < J.2.2.1 + cn (tch A) 0 (blk A)
      · obtain ⟨b, b1, b2, b3⟩ := cn_surj (p := tch A) (blk A) (q - J.2.2.1) (by omega)
        have := f10 b b1 b2
        rw [b3, show J.2.2.1 + (q - J.2.2.1) = q by omega] at this
        rw [this]
        exact b1
      · obtain ⟨b, b1, b2, b3⟩ := cn_surj (p := rvk A) (blk A) (q - J.2.2.1 - cn (tch A) 0 (blk A)) (by omega)
        have := f11 b b1 b2
        rw [b3, show J.2.2.1 + cn (tch A) 0 (blk A) + (q - J.2.2.1 - cn (tch A) 0 (blk A)) = q by omega] at this
        rw [this]
        exact b1
  · intro i hi
    rw [f12] at hi
    rw [b35 6 (by decide)]
    by_cases c : i = J.2.1
    · rw [c, f3, f4]
      refine ⟨?_, sr34⟩
      rw [v4.2.1]
      exact Nat.mod_lt _ (by omega)
    · rw [old 38 i (by omega) (by omega) (by omega), old 39 i (by omega) (by omega) (by omega)]
      exact l4 i (by omega)
  · intro i
    by_cases c : i = J.2.1
    · rw [c, f5]
      exact hun
    · rw [f1 40 i (by omega) (by omega) c]
      exact l5 i
  · have k1 : CT Φ bi D A1 J := CT_all hΦ r4 (fun q hq => b35 q (by omega)) (fun _ _ _ _ => rfl) hok (by omega)
    intro n n1 n2
    obtain ⟨s, w', a1, a2, a3, a4⟩ := k1 n n1 n2
    refine ⟨s, w', ?_, a2, a3, a4⟩
    have ud : udC A1 J1 n = udC A1 J n := by
      unfold udC
      by_cases c : A1 35 35 < n
      · rw [if_pos c, if_pos c, old 40 _ (by omega) (by omega) (by rw [b35 28 (by decide)] at n2; rw [b35 35 (by decide)] at c ⊢; omega)]
      · rw [if_neg c, if_neg c]
    rw [ud, f14]
    exact Or.inl a1
  · intro k i k1 k2
    rw [b35 29 (by decide), b35 35 (by decide)] at k1
    rw [old 39 k (by omega) (by omega) (by omega)] at k2
    obtain ⟨a1, a2, a3⟩ := r5 k i k1 k2
    rw [wb k i (by omega), old 37 k (by omega) (by omega) (by omega), bo 39 (by decide), bo 40 (by decide)]
    exact ⟨a1, a2, NV_sD sd a3⟩
  · have := AV_sD sd r6
    unfold HDd
    rw [b35 35 (by decide), b35 28 (by decide)]
    exact this
  · have := AV_mono (AV_sD sd r7) (Q := fun b w i => rgP (A 35 6) b w ∧ (w = 2 → i ≤ A 35 34 + 1) ∧ (w = 3 → bi i ≠ 0 ∧ b < 34 + A 35 6 + A 35 7)) (fun b w i q => ⟨q.1, fun e => by have := q.2.1 e; omega, q.2.2⟩)
    unfold RG
    rw [b35 6 (by decide), b35 7 (by decide), bs]
    exact this
  · unfold SPJ
    rw [cs, bs]
    refine ⟨fun x => ?_, fun x hx => ?_, fun x y a b => ?_, by omega⟩
    · unfold upN
      split
      · exact Nat.le_refl _
      · have := s1 x
        omega
    · unfold upN
      rw [if_neg (by omega)]
      exact s2 x (by omega)
    · unfold upN at a b
      by_cases c : x = A 35 34 + 1
      · by_cases d : y = A 35 34 + 1
        · omega
        · rw [if_pos c, if_neg d] at b
          have := s1 y
          omega
      · by_cases d : y = A 35 34 + 1
        · rw [if_neg c, if_pos d] at b
          have := s1 x
          omega
        · rw [if_neg c] at a b
          rw [if_neg d] at b
          exact s3 x y a b
  · obtain ⟨m1, m2, m3, m4⟩ := r9
    unfold MI
    rw [cp 10 (by decide), cp 11 (by decide), b35 6 (by decide), b35 7 (by decide), bs]
    exact ⟨ci_cong m1 (fun q _ => by rw [cp 10 (by decide)]) (cp 15 (by decide)) (cp 16 (by decide)) (cp 17 (by decide)), m2, ⟨fun x => ⟨(m3.1 x).1, Nat.le_succ_of_le (m3.1 x).2⟩, fun x hx => m3.2.1 x (by omega), m3.2.2⟩, m4⟩
  · exact TP_all r10 (fun p hp => cp p (by omega)) (fun o ho => bo o (by omega)) (b35 57 (by decide))
  · exact SR_oth sr6 (fun p _ hp => cp p hp) (fun _ _ => rfl) (fun _ _ => rfl)
  · exact hΦ w A _ (bo 36 (by decide)) (b35 7 (by decide)) t5
  · intro k i k1 k2
    rw [b35 28 (by decide), b35 35 (by decide)] at k1
    rw [old 39 k (by omega) (by omega) (by omega)] at k2
    rw [wb k i k1, cur_sD sd, old 37 k (by omega) (by omega) (by omega)]
    exact lc5 k i k1 k2
  · unfold HDc
    rw [cur_sD sd, b35 31 (by decide)]
    exact hc5
  · rw [cp 100 (by decide), b35 28 (by decide), b35 35 (by decide)]
    exact gh5
  · rw [b35 18 (by decide)]
    exact on5
  · rw [f12, nr5, b35 28 (by decide), b35 35 (by decide)]
  · rw [bo 46 (by decide)]
    exact z5
  · rw [b35 28 (by decide), b35 35 (by decide), ← nr5, f2, bs]
  · rw [b35 28 (by decide), b35 35 (by decide), ← nr5, f3, b35 33 (by decide)]
  · rw [b35 28 (by decide), b35 35 (by decide), ← nr5, f4]
  · rw [b35 28 (by decide), b35 35 (by decide), b35 6 (by decide), szo _ (Nat.le_refl _)]
    exact hf
  · rw [cs, bs, spn]
  · rw [bs, spn]
    omega
  · refine AV_mono (AV_sD sd r7) (fun b w i q e1 e2 => ?_)
    have := q.2.1 e1
    rw [bs] at e2
    omega
end POS
