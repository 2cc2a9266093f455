/-! ===== PURE: the relation behind a flush ===== -/
section RLF
variable {Φ : tPh} {bi sp : Nat → Nat} {w : Nat → Nat × Nat} {C C' C1 C3 C5 : tS} {D D' D1 D5 : tD} {A B : tS} {J J' : tJ} {n k m q b wh id K g : Nat}
/-- memory and what it does not speak of -/
theorem SR_oth (h : SR bi w C A) (cp : ∀ p, 10 ≤ p → p ≠ 20 → C' p = C p) (ba : ∀ o, o = 36 ∨ (47 ≤ o ∧ o ≤ 52) ∨ o = 71 → B o = A o) (bf : ∀ q, q = 6 ∨ q = 7 ∨ q = 28 ∨ q = 34 → B 35 q = A 35 q) : SR bi w C' B := by
  have B36 := ba 36 (by omega)
  refine ⟨rk_by (ci_cong h.rk.1 (fun q _ => by rw [cp 10 (by decide) (by decide)]) (cp 15 (by decide) (by decide)) (cp 16 (by decide) (by decide)) (cp 17 (by decide) (by decide))) (sk_cong h.rk.2.1 (cp 12 (by decide) (by decide)) (fun q _ => by rw [cp 10 (by decide) (by decide)])) (by rw [cp 10 (by decide) (by decide)]) h.rk, ?_, ?_, ?_, ?_, ?_, ?_, ?_⟩
  · have := h.ti
    unfold TI slo hasA leafA us nd pt eZ at this ⊢
    rw [B36, bf 7 (by omega)]
    exact this
  · rw [cp 11 (by decide) (by decide)]
    exact MR_36 B36 h.mr
  · rw [cp 11 (by decide) (by decide)]
    have := h.fb
    unfold FB us nd at this ⊢
    rw [B36, ba 47 (by omega)]
    exact this
  · have := h.bj
    unfold BJ us se at this ⊢
    rw [B36, bf 34 (by omega), cp 10 (by decide) (by decide)]
    exact this
  · have := h.zm
    unfold ZM us nbA se at this ⊢
    rw [B36, bf 6 (by omega), bf 7 (by omega), bf 28 (by omega), ba 49 (by omega), ba 51 (by omega), ba 52 (by omega), ba 48 (by omega), ba 50 (by omega), ba 71 (by omega), cp 10 (by decide) (by decide), cp 12 (by decide) (by decide), cp 13 (by decide) (by decide), cp 14 (by decide) (by decide), cp 15 (by decide) (by decide), cp 16 (by decide) (by decide), cp 17 (by decide) (by decide), cp 19 (by decide) (by decide), cp 32 (by decide) (by decide)]
    exact this
  · have := h.ok
    unfold okT at this ⊢
    rw [B36]
    exact this
  · have := h.gh
    unfold GH us nd at this ⊢
    rw [B36, bf 7 (by omega), ba 49 (by omega), ba 48 (by omega), cp 11 (by decide) (by decide), cp 15 (by decide) (by decide), cp 16 (by decide) (by decide), cp 100 (by decide) (by decide)]
    exact this
theorem fl1_f : (∀ o, o ≠ 35 → o ≠ 49 → fl1 A o = A o) ∧ (∀ q, fl1 A 35 q = if q = 32 then A 35 31 else if q = 29 then A 35 28 else A 35 q) ∧ (∀ r, r < A 35 7 → fl1 A 49 r = if 1 < A 49 r ∧ A 49 r - 1 ≤ A 35 28 then 0 else A 49 r) := by
  have f0 : ∀ q, fl0 A 35 q = if q = 32 then A 35 31 else if q = 29 then A 35 28 else A 35 q := fun q => by
    unfold fl0
    by_cases c : q = 32
    · rw [if_pos c, c, up2_s]
    · rw [if_neg c, up2_j c]
      by_cases d : q = 29
      · rw [if_pos d, d, up2_s]
      · rw [if_neg d, up2_j d]
  have fo : ∀ o, o ≠ 35 → fl0 A o = A o := fun o h => by
    unfold fl0
    rw [up2_rown h, up2_rown h]
  unfold fl1
  refine ⟨fun o h1 h2 => ?_, fun q => ?_, fun r hr => ?_⟩
  · funext q
    rw [rt_at, if_neg (fun e => h2 e.1), fo o h1]
  · rw [rt_at, if_neg (by omega), f0]
  · rw [rt_at, fo 49 (by decide)]
    by_cases c : 1 < A 49 r ∧ A 49 r - 1 ≤ A 35 28
    · rw [if_pos c, if_pos ⟨rfl, Nat.zero_le _, by omega, c⟩]
    · rw [if_neg c, if_neg (fun e => c e.2.2.2)]
theorem fgA_f (h1 : A 35 35 ≤ A 35 32) : (∀ o, o ≠ 35 → fgA A J o = A o) ∧ (∀ q, q ≠ 46 → q ≠ 35 → fgA A J 35 q = A 35 q) ∧ fgA A J 35 35 = A 35 32 ∧ fgA A J 35 46 = if A 35 35 < A 35 32 then (J.1 38 (A 35 32 - A 35 35 - 1) + J.1 39 (A 35 32 - A 35 35 - 1)) % A 35 6 else A 35 46 := by
  unfold fgA fgA2
  by_cases c : A 35 35 < A 35 32
  · rw [if_pos c, if_pos c, fg1_B (by decide), fg1_B (by decide)]
    refine ⟨fun o h => ?_, fun q h1 h2 => ?_, up2_s _ _ _ _, ?_⟩
    · rw [up2_rown h, up2_rown h]
    · rw [up2_j h2, up2_j h1]
    · rw [up2_j (by decide), up2_s]
  · rw [if_neg c, if_neg c]
    exact ⟨fun _ _ => rfl, fun _ _ _ => rfl, by omega, rfl⟩
theorem RO_flu (hΦ : goodT Φ) (hok : ∀ w A, Φ w A → okT A) (h : RO Φ bi sp w C D A J) (h5 : A 35 15 < 256) (hR : DR bi sp C1 D1 (fluA A)) (hc : cO C C1) (hj : JP D D1) (hf : frP (A 35 28) (up2 C1 20 13 (A 35 28)) C3) (hF : FDs (A 35 31 - A 35 35) (up2 C3 20 16 (A 35 31)) D1 C5 D5) :
    RO Φ bi sp w C5 D5 (fgA (fl1 (fluA A)) J) (fgJ (fl1 (fluA A)) J) ∧ (∀ q, q ≠ 29 → q ≠ 32 → q ≠ 35 → q ≠ 46 → fgA (fl1 (fluA A)) J 35 q = fluA A 35 q) ∧ C5 20 14 = A 35 30 ∧ C5 20 15 = A 35 31 := by
  obtain ⟨hCO, hSR, hT, hLc, hHc, hgh, hon, hnr, h46⟩ := h
  obtain ⟨r1, r2, r3, r4, r5, r6, r7, r8, r9, r10⟩ := hCO
  obtain ⟨u1, u2, u3, u4, u5, u6⟩ := r2
  obtain ⟨o1, o2, o3, o4, o5, o6, o7, o8, o9, o10⟩ := u3
  obtain ⟨f1, f2, f3, f4, f5, f6, f7, f8⟩ := u1
  obtain ⟨i1, i2, i3, i4, i5⟩ := flu_all h5
  have kf := dk_flu h5
  have e1 : ∀ q, q ≤ 14 ∨ 22 ≤ q → fluA A 35 q = A 35 q := fun q hq => kf.2 q (by omega) (by omega) (by omega) (by omega) (by omega) (by omega)
  have e18 : fluA A 35 18 = A 35 18 := i4 18 (by decide) (by decide) (by decide) (by decide) (by decide)
  obtain ⟨x1, x2, x3⟩ := fl1_f (A := fluA A)
  have xb : fl1 (fluA A) 35 35 = A 35 35 := by rw [x2, if_neg (by decide), if_neg (by decide), e1 35 (by omega)]
  have xt : fl1 (fluA A) 35 32 = A 35 31 := by rw [x2, if_pos rfl, e1 31 (by omega)]
  have xl : fl1 (fluA A) 35 28 = A 35 28 := by rw [x2, if_neg (by decide), if_neg (by decide), e1 28 (by omega)]
  have xg : fl1 (fluA A) 35 6 = A 35 6 := by rw [x2, if_neg (by decide), if_neg (by decide), e1 6 (by omega)]
  have x7 : fl1 (fluA A) 35 7 = A 35 7 := by rw [x2, if_neg (by decide), if_neg (by decide), e1 7 (by omega)]
  have x46 : fl1 (fluA A) 35 46 = A 35 46 := by rw [x2, if_neg (by decide), if_neg (by decide), e1 46 (by omega)]
  obtain ⟨y1, y2, y3, y4⟩ := fgA_f (A := fl1 (fluA A)) (J := J) (by rw [xb, xt]; omega)
  rw [xt] at y3
  rw [xb, xt, xg, x46] at y4
  have hJL : JL (fl1 (fluA A)) J := by
    unfold JL
    rw [xg, x7]
    exact r3
  obtain ⟨z1, z2, ⟨fi, z3, z4, z5⟩, z6, z7, z8⟩ := fg_fx (A := fl1 (fluA A)) (J := J) hJL (by rw [xb, xt]; omega) (by rw [xb, xt]; omega)
  have efr : frA_ (fl1 (fluA A)) J = udC A J (A 35 28) := by
    unfold frA_ udC
    rw [xb, xl]
  rw [xb, xt] at z1 z2 z3 z6
  rw [efr] at z6 z7
  generalize hA3 : fgA (fl1 (fluA A)) J = A3 at y1 y2 y3 y4
  generalize hJ3 : fgJ (fl1 (fluA A)) J = J3 at z1 z2 z3 z4 z5 z6 z7 z8
  -- the fields of the reference
  have F : ∀ q, q ≠ 29 → q ≠ 32 → q ≠ 35 → q ≠ 46 → A3 35 q = fluA A 35 q := fun q a b c d => by rw [y2 q d c, x2, if_neg b, if_neg a]
  have F29 : A3 35 29 = A 35 28 := by rw [y2 29 (by decide) (by decide), x2, if_neg (by decide), if_pos rfl, e1 28 (by omega)]
  have F32 : A3 35 32 = A 35 31 := by rw [y2 32 (by decide) (by decide), xt]
  have Fq : ∀ q, q = 6 ∨ q = 7 ∨ q = 28 ∨ q = 30 ∨ q = 31 ∨ q = 33 ∨ q = 34 ∨ q = 57 → A3 35 q = A 35 q := fun q hq => by rw [F q (by omega) (by omega) (by omega) (by omega), e1 q (by omega)]
  have Ro : ∀ o, o ≠ 35 → o ≠ 49 → A3 o = fluA A o := fun o a b => by rw [y1 o a, x1 o a b]
  have R2 : ∀ o, o ≠ 35 → o ≠ 49 → o ≠ 39 → o ≠ 40 → o ≠ 41 → A3 o = A o := fun o a b c d e => by rw [Ro o a b, i5 o a c d e]
  have sd : sD (fluA A) A3 := ⟨Ro 39 (by decide) (by decide), Ro 40 (by decide) (by decide), Ro 42 (by decide) (by decide), Ro 43 (by decide) (by decide), Ro 44 (by decide) (by decide), F 15 (by decide) (by decide) (by decide) (by decide), F 16 (by decide) (by decide) (by decide) (by decide)⟩
  have cu3 : ∀ b, cur A3 b = cur A b := fun b => by rw [cur_sD sd, cur_flu h5]
  have nv3 : ∀ b, NV A3 b := fun b => NV_sD sd (NV_flu h5)
  have kp3 : ∀ b, (A3 39 b, A3 40 b) = cur A b := fun b => by rw [← cur_NV (nv3 b), cu3]
  have wb3 : ∀ k i, k < A 35 28 - A 35 31 → whB A3 J3 k i = whB A J (k + (A 35 31 - A 35 35)) i := fun k i hk => by
    unfold whB
    rw [z2 38 k (by omega) (by omega), Fq 6 (by omega)]
  -- the class
  obtain ⟨jj1, jj2, jj3⟩ := JP_KW hj
  obtain ⟨p1, p2, p3⟩ := hf
  have c3 : ∀ q, C3 20 q = up2 C1 20 13 (A 35 28) 20 q := fun q => p3 20 q (by decide) (by omega)
  have cC : ∀ p, 10 ≤ p → C1 p = C p := fun p hp => hc p (by omega) (by omega) (by omega) (by omega) (by omega) (by omega) (by omega)
  have c20 : ∀ q, up2 C3 20 16 (A 35 31) 20 q = if q = 16 then A 35 31 else if q = 13 then A 35 28 else C 20 q := fun q => by
    by_cases a : q = 16
    · rw [if_pos a, a, up2_s]
    · rw [if_neg a, up2_j a, c3]
      by_cases b : q = 13
      · rw [if_pos b, b, up2_s]
      · rw [if_neg b, up2_j b, cC 20 (by decide)]
  have eg : dL D1 = A 35 35 ∧ dH D1 = A 35 28 := by rw [jj1.2.2.2.1, jj1.2.2.2.2]; exact u2
  have tr1 : ∀ n, n < A 35 28 - A 35 35 → dT D1 4 (dL D1 + n + 1) = J.1 39 n := fun n hn => by
    have := (u6 (dL D + n + 1) (by omega) (by rw [u2.1, u2.2]; omega)).1.2.2.2.1
    rw [show dL D + n + 1 - A 35 35 - 1 = n by rw [u2.1]; omega] at this
    rw [jj1.2.1, jj1.2.2.2.1, this]
  have sT : sTz D1 (dL D1) (A 35 31 - A 35 35) = szL J.1 0 (A 35 31 - A 35 35) := by
    have gen : ∀ m k, k + m ≤ A 35 28 - A 35 35 → sTz D1 (dL D1 + k) m = szL J.1 k m := fun m => by
      induction m with
      | zero => exact fun _ _ => rfl
      | succ m ih =>
        intro k hk
        show dT D1 4 (dL D1 + k + 1) + sTz D1 (dL D1 + k + 1) m = J.1 39 k + szL J.1 (k + 1) m
        rw [tr1 k (by omega)]
        exact congrArg _ (ih (k + 1) (by omega))
    exact gen _ 0 (by omega)
  have sz1 : szL J.1 0 (A 35 28 - A 35 35) = szL J.1 0 (A 35 31 - A 35 35) + szL J.1 (A 35 31 - A 35 35) (A 35 28 - A 35 31) := by
    have := szL_add J.1 (A 35 31 - A 35 35) 0 (A 35 28 - A 35 31)
    rw [Nat.zero_add, show A 35 31 - A 35 35 + (A 35 28 - A 35 31) = A 35 28 - A 35 35 by omega] at this
    exact this
  have sz3 : ∀ m, m ≤ A 35 28 - A 35 31 → szL J3.1 0 m = szL J.1 (A 35 31 - A 35 35) m := fun m hm => szL_cong m 0 (A 35 31 - A 35 35) (fun i hi => by
    rw [Nat.zero_add, z2 39 i (by omega) (by omega), Nat.add_comm])
  obtain ⟨⟨d1, d2, d3, d4, d5, d6, d7, d8, d9⟩, v1, v2, v3, v4, v5⟩ := fd_fx _ _ _ _ _ hF (by rw [sT, c20, if_neg (by decide), if_neg (by decide), u5]; omega)
  rw [sT, c20, if_neg (by decide), if_neg (by decide), u5] at v3
  have w8 : ∀ p, wrC (up2 C3 20 16 (A 35 31)) p = p % A 35 6 := fun p => by
    have e8 : up2 C3 20 16 (A 35 31) 20 8 = A 35 6 := by rw [c20, if_neg (by decide), if_neg (by decide), f1]
    unfold wrC
    rw [e8, if_pos (by omega)]
  have C5q : ∀ q, q ≠ 9 → q ≠ 11 → C5 20 q = if q = 16 then A 35 31 else if q = 13 then A 35 28 else C 20 q := fun q a b => by rw [v2 q a b, c20]
  have C5p : ∀ p, p ≠ 20 → C5 p = C3 p := fun p hp => by rw [v1 p hp, up2_rown hp]
  have C5d : ∀ p, p ≠ 20 → p ≠ 12 → p ≠ 10 → C5 p = C1 p := fun p a b c => by
    rw [C5p p a]
    funext q
    rw [p3 p q b (by omega), up2_rown a]
  have mw : ∀ m q, m ≤ A 35 28 - A 35 31 → q < 65088 → mW D5 m q = mW D (m + (A 35 31 - A 35 35)) q := fun m q hm hq => by
    rw [v5, mW_JP hj (by omega) _ (by rw [u2.1, u2.2]; omega)]
  have fin : RO Φ bi sp w C5 D5 A3 J3 := by
    refine ⟨⟨?_, ⟨?_, ?_, ?_, ?_, ?_, ?_⟩, ?_, ?_, ?_, ?_, ?_, ?_, ?_, ?_⟩, ?_, ?_, ?_, ?_, ?_, ?_, ?_, ?_⟩
    · -- the disk
      refine DR_all hR (fun p hp => C5d p (by omega) (by omega) (by omega)) d6 d7 (fun o j a _ _ _ => by rw [d5]) (fun o a b => Ro o (by omega) (by omega)) (fun q hq => F q (by omega) (by omega) (by omega) (by omega))
    · -- numbers
      refine ⟨?_, ?_, ?_, ?_, ?_, ?_, ?_, ?_⟩
      · rw [C5q 8 (by decide) (by decide), if_neg (by decide), if_neg (by decide), f1, Fq 6 (by omega)]
      · rw [C5q 10 (by decide) (by decide), if_neg (by decide), if_neg (by decide), f2, Fq 33 (by omega)]
      · rw [v4, y4]
        by_cases c : A 35 35 < A 35 31
        · rw [if_pos c, if_neg (by omega), w8]
          have t := (u6 (dL D + (A 35 31 - A 35 35)) (by omega) (by rw [u2.1, u2.2]; omega)).1
          rw [jj1.2.1, jj1.2.2.2.1, t.2.2.1, t.2.2.2.1, show dL D + (A 35 31 - A 35 35) - A 35 35 - 1 = A 35 31 - A 35 35 - 1 by rw [u2.1]; omega]
        · rw [if_neg c, if_pos (by omega), c20, if_neg (by decide), if_neg (by decide), f3]
      · rw [C5q 12 (by decide) (by decide), if_neg (by decide), if_neg (by decide), f4, Fq 28 (by omega)]
      · rw [C5q 13 (by decide) (by decide), if_neg (by decide), if_pos rfl, F29]
      · rw [C5q 14 (by decide) (by decide), if_neg (by decide), if_neg (by decide), f6, Fq 30 (by omega)]
      · rw [C5q 15 (by decide) (by decide), if_neg (by decide), if_neg (by decide), f7, Fq 31 (by omega)]
      · rw [C5q 16 (by decide) (by decide), if_pos rfl, F32]
    · rw [d1, d2, eg.1, eg.2, y3, Fq 28 (by omega)]
      exact ⟨by omega, rfl⟩
    · unfold JO
      rw [F29, F32, y3, Fq 28 (by omega), Fq 30 (by omega), Fq 31 (by omega), Fq 6 (by omega), Fq 7 (by omega), z1]
      exact ⟨rfl, Nat.le_refl _, o3, by omega, Nat.le_refl _, o6, by omega, o8, o9, o10⟩
    · -- the ring
      obtain ⟨g1, g2, g3⟩ := u4
      have he : A 35 35 < A 35 31 → (J.1 38 (A 35 31 - A 35 35 - 1) + J.1 39 (A 35 31 - A 35 35 - 1)) % A 35 6 = (A 35 46 + szL J.1 0 (A 35 31 - A 35 35)) % A 35 6 := fun c => by
        rw [g1 _ (by omega), Nat.mod_add_mod]
        have := szL_add J.1 (A 35 31 - A 35 35 - 1) 0 1
        rw [show A 35 31 - A 35 35 - 1 + 1 = A 35 31 - A 35 35 by omega, Nat.zero_add] at this
        rw [this]
        show _ = (A 35 46 + (szL J.1 0 (A 35 31 - A 35 35 - 1) + (J.1 39 (A 35 31 - A 35 35 - 1) + 0))) % A 35 6
        congr 1
        omega
      have hx : ∀ y, (A3 35 46 + y) % A 35 6 = (A 35 46 + szL J.1 0 (A 35 31 - A 35 35) + y) % A 35 6 := fun y => by
        rw [y4]
        by_cases c : A 35 35 < A 35 31
        · rw [if_pos c, he c, Nat.mod_add_mod]
        · rw [if_neg c, show A 35 31 - A 35 35 = 0 by omega]
          rfl
      unfold JG
      rw [Fq 28 (by omega), Fq 33 (by omega), Fq 6 (by omega), y3]
      refine ⟨fun k hk => ?_, ?_, ?_⟩
      · rw [z2 38 k (by omega) (by omega), g1 _ (by omega), hx, sz3 k (by omega), Nat.add_assoc]
        have := szL_add J.1 (A 35 31 - A 35 35) 0 k
        rw [Nat.zero_add] at this
        rw [← this, Nat.add_comm k]
      · rw [hx, sz3 _ (Nat.le_refl _), Nat.add_assoc, ← sz1]
        exact g2
      · refine ⟨by rw [sz3 _ (Nat.le_refl _)]; omega, ?_⟩
        rw [y4]
        by_cases c : A 35 35 < A 35 31
        · rw [if_pos c]
          exact Nat.mod_lt _ (by omega)
        · rw [if_neg c]
          exact g3.2
    · rw [Fq 28 (by omega), y3, sz3 _ (Nat.le_refl _)]
      omega
    · intro n n1 n2
      rw [d1, eg.1] at n1
      rw [d2, eg.2] at n2
      have t := u6 n (by rw [u2.1]; omega) (by rw [u2.2]; exact n2)
      have hk : n - A 35 35 - 1 = (n - A3 35 35 - 1) + (A 35 31 - A 35 35) := by rw [y3]; omega
      have hk2 : n - A3 35 35 - 1 < J.2.1 - (A 35 31 - A 35 35) := by rw [y3]; omega
      have nb : ∀ c, nbA A3 c = nbA A c := fun c => by unfold nbA; rw [Fq 6 (by omega)]
      rw [hk] at t
      unfold TR at t ⊢
      rw [d3, d4, jj1.2.1, jj1.2.2.1, z2 37 _ (by omega) hk2, z2 38 _ (by omega) hk2, z2 39 _ (by omega) hk2, z2 42 _ (by omega) hk2, z2 43 _ (by omega) hk2, Fq 6 (by omega), Fq 7 (by omega)]
      have e41 := z3 _ hk2
      refine ⟨t.1, fun i hi => ?_, fun i hi => ?_, t.2.2.2⟩
      · have := t.2.1 i hi
        rw [nb, z4, show J3.1 41 (n - A3 35 35 - 1) + i + fi = J.1 41 (n - A3 35 35 - 1 + (A 35 31 - A 35 35)) + i by omega]
        exact this
      · have := t.2.2.1 i hi
        rw [nb, z4, show J3.1 41 (n - A3 35 35 - 1) + J.1 42 (n - A3 35 35 - 1 + (A 35 31 - A 35 35)) + i + fi = J.1 41 (n - A3 35 35 - 1 + (A 35 31 - A 35 35)) + J.1 42 (n - A3 35 35 - 1 + (A 35 31 - A 35 35)) + i by omega]
        exact this
    · -- lists
      obtain ⟨l1, l2, l3, l4, l5⟩ := r3
      unfold JL
      rw [z1, Fq 6 (by omega), Fq 7 (by omega)]
      refine ⟨fun i j a b => ?_, fun i a => ?_, fun q a => ?_, fun i a => ?_, z8⟩
      · have q1 := z3 i (by omega)
        have q2 := z3 j b
        have := l1 (i + (A 35 31 - A 35 35)) (j + (A 35 31 - A 35 35)) (by omega) (by omega)
        omega
      · have q1 := z3 i a
        rw [z2 42 i (by omega) a, z2 43 i (by omega) a]
        have := l2 (i + (A 35 31 - A 35 35)) (by omega)
        omega
      · rw [z4]
        exact l3 _ (by omega)
      · rw [z2 38 i (by omega) a, z2 39 i (by omega) a]
        exact l4 _ (by omega)
    · -- contents
      intro n n1 n2
      rw [F29] at n1
      rw [Fq 28 (by omega)] at n2
      have en : n = A 35 28 := by omega
      subst en
      obtain ⟨s, w', k1, k2, k3, k4⟩ := r4 (A 35 28) o5 (Nat.le_refl _)
      have e36 : upR A3 36 s 36 = upR A 36 s 36 := by rw [sr_36, sr_36]
      have e7 : upR A3 36 s 35 7 = upR A 36 s 35 7 := by rw [sr_o (by decide), sr_o (by decide), Fq 7 (by omega)]
      have k3' := hΦ w' _ _ e36 e7 k3
      have ud : udC A3 J3 (A 35 28) = 0 := by
        unfold udC
        rw [y3]
        by_cases c : A 35 31 < A 35 28
        · rw [if_pos c, z6 _ (by omega), show A 35 28 - A 35 31 - 1 + (A 35 31 - A 35 35) = A 35 28 - A 35 35 - 1 by omega]
          unfold udC
          rw [if_pos (by omega)]
          omega
        · rw [if_neg c]
      refine ⟨s, w', by rw [ud, z7, Nat.zero_add]; exact k1, ?_, k3', ?_⟩
      · rw [y3]
        refine MR_W (hok w' _ k3') (MR_36 e36 k2) (fun q hq => ?_)
        rw [mw _ q (by omega) hq]
        congr 1
        omega
      · unfold us se at k4 ⊢
        rw [e36]
        exact k4
    · -- the log
      intro k i k1 k2
      rw [F29, y3] at k1
      rw [z2 39 k (by omega) (by omega)] at k2
      have := kp3 (whB A3 J3 k i)
      rw [wb3 k i k1, hLc _ i (by omega) k2] at this
      rw [wb3 k i k1, z2 37 k (by omega) (by omega)]
      exact ⟨congrArg Prod.fst this, congrArg Prod.snd this, nv3 _⟩
    · -- the head
      refine ⟨fun b hb e => ?_, fun j hj => by rw [sd.2.2.2.2.2.2, i2] at hj; omega⟩
      subst e
      have := kp3 0
      have a1 : A3 39 0 = (cur A 0).1 := by rw [← this]
      have a2 : A3 40 0 = (cur A 0).2 := by rw [← this]
      rw [a1, a2, y3, Fq 28 (by omega)]
      rcases hHc with q | q
      · rw [q]
        exact Or.inl ⟨rfl, Nat.le_refl _, by omega⟩
      · exact Or.inr q
    · have := AV_sD sd (AV_flu r7 h5)
      unfold RG
      rw [Fq 6 (by omega), Fq 7 (by omega), Fq 34 (by omega)]
      exact this
    · unfold SPJ
      rw [C5q 17 (by decide) (by decide), if_neg (by decide), if_neg (by decide), Fq 34 (by omega)]
      exact r8
    · obtain ⟨m1, m2, m3, m4⟩ := r9
      have c10 : ∀ q, q ≠ 9 → q ≠ 10 → q ≠ 14 → C5 10 q = C 10 q := fun q a b c => by rw [C5p 10 (by decide), p3 10 q (by decide) (by omega), up2_rown (by decide), cC 10 (by decide)]
      unfold MI
      rw [c10 7 (by decide) (by decide) (by decide), c10 8 (by decide) (by decide) (by decide), c10 15 (by decide) (by decide) (by decide), C5d 11 (by decide) (by decide) (by decide), cC 11 (by decide), Fq 6 (by omega), Fq 7 (by omega), Fq 34 (by omega)]
      exact ⟨ci_cong m1 (fun q hq => c10 q (by omega) (by omega) (by omega)) (by rw [C5d 15 (by decide) (by decide) (by decide), cC 15 (by decide)]) (by rw [C5d 16 (by decide) (by decide) (by decide), cC 16 (by decide)]) (by rw [C5d 17 (by decide) (by decide) (by decide), cC 17 (by decide)]), m2, m3, m4⟩
    · exact TP_all r10 (fun p hp => by rw [C5d p (by omega) (by omega) (by omega), cC p (by omega)]) (fun o hp => R2 o (by omega) (by omega) (by omega) (by omega) (by omega)) (Fq 57 (by omega))
    · -- memory
      have s1 := SR_disk hSR hc kf
      have s2 : SR bi w (up2 C1 20 13 (A 35 28)) (fluA A) := SR_oth s1 (fun p _ hp => up2_rown hp) (fun _ _ => rfl) (fun _ _ => rfl)
      have s3 : SR bi w C3 (upR (fluA A) 49 (fl1 (fluA A) 49)) := SR_ret s2 ⟨p1, p2, p3⟩ (by rw [e1 28 (by omega)]; exact Nat.le_refl _) (fun o ho => by funext q; exact if_neg ho) (fun r hr => by
        show (if 49 = 49 then fl1 (fluA A) 49 r else fluA A 49 r) = _
        rw [if_pos rfl, x3 r hr, e1 28 (by omega)])
      refine SR_oth s3 (fun p a b => C5p p b) (fun o ho => ?_) (fun q hq => ?_)
      · by_cases c : o = 49
        · rw [c, y1 49 (by decide)]
          funext q
          exact (if_pos rfl).symm
        · rw [Ro o (by omega) c]
          funext q
          exact (if_neg c).symm
      · rw [F q (by omega) (by omega) (by omega) (by omega)]
        exact (if_neg (by decide)).symm
    · exact hΦ w A A3 (R2 36 (by decide) (by decide) (by decide) (by decide) (by decide)) (Fq 7 (by omega)) hT
    · intro k i k1 k2
      rw [Fq 28 (by omega), y3] at k1
      rw [z2 39 k (by omega) (by omega)] at k2
      rw [cu3, wb3 k i k1, z2 37 k (by omega) (by omega)]
      exact hLc _ i (by omega) k2
    · unfold HDc
      rw [cu3, Fq 31 (by omega)]
      exact hHc
    · intro q hq
      rw [C5d 100 (by decide) (by decide) (by decide), cC 100 (by decide), hgh q hq, Fq 28 (by omega), y3, mw _ q (by omega) hq]
      congr 1
      omega
    · rw [F 18 (by decide) (by decide) (by decide) (by decide), e18]
      exact hon
    · rw [z1, Fq 28 (by omega), y3]
      omega
    · intro b
      rw [R2 46 (by decide) (by decide) (by decide) (by decide) (by decide)]
      exact h46 b
  refine ⟨fin, F, ?_, ?_⟩
  · rw [C5q 14 (by decide) (by decide), if_neg (by decide), if_neg (by decide), f6]
  · rw [C5q 15 (by decide) (by decide), if_neg (by decide), if_neg (by decide), f7]
end RLF
