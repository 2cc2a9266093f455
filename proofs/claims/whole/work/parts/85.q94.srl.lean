/-! ===== PURE: both memories behind the loader ===== -/
section SRL
variable {Φ : tPh} {b0 fu : Nat} {σ τ : tM} {bi sp : Nat → Nat} {w : Nat → Nat × Nat} {C C0 C1 A B : tS} {D : tD} {V W : Nat → Nat} {n m k r to en : Nat} {s : Nat → Nat}
theorem ba1_at (fl : Bool) (r : Nat) (q : Nat) : ∀ m k A, ba1 fl r k m A 47 q = if 256 * r + k ≤ q ∧ q < 256 * r + k + m then (bif fl then A 41 q else 0) else A 47 q
  | 0, k, A => by
    unfold ba1
    rw [if_neg (by omega)]
  | m + 1, k, A => by
    unfold ba1
    rw [ba1_at fl r q m (k + 1)]
    by_cases c : q = 256 * r + k
    · rw [if_neg (by omega), if_pos (by omega), c, up2_s]
    · rw [up2_o (show (41 : Nat) ≠ 47 by decide), up2_j c]
      by_cases d : 256 * r + (k + 1) ≤ q ∧ q < 256 * r + (k + 1) + m
      · rw [if_pos d, if_pos (by omega)]
      · rw [if_neg d, if_neg (by omega)]
theorem baN_o {o : Nat} (h : o ≠ 47) : ∀ m r A, baN r m A o = A o
  | 0, _, _ => rfl
  | m + 1, r, A => by
    unfold baN
    rw [baN_o h m]
    funext j
    exact ba1_o _ _ j h 256 0 A
theorem baF_c (h35 : B 35 = A 35) (h36 : B 36 = A 36) (h39 : B 39 = A 39) (h40 : B 40 = A 40) (r : Nat) : baF B r = baF A r := by
  unfold baF
  rw [h35, h36, h39, h40]
theorem baN_at : ∀ m r A x j, j < 256 → baN r m A 47 (256 * x + j) = if r ≤ x ∧ x < r + m then (bif baF A x then A 41 (256 * x + j) else 0) else A 47 (256 * x + j)
  | 0, r, A, x, j, _ => by
    unfold baN
    rw [if_neg (by omega)]
  | m + 1, r, A, x, j, hj => by
    have o : ∀ o, o ≠ 47 → ba1 (baF A r) r 0 256 A o = A o := fun o ho => by
      funext q
      exact ba1_o _ _ q ho 256 0 A
    unfold baN
    rw [baN_at m (r + 1) _ x j hj, baF_c (o 35 (by decide)) (o 36 (by decide)) (o 39 (by decide)) (o 40 (by decide)), o 41 (by decide), ba1_at]
    by_cases c : x = r
    · subst c
      rw [if_neg (by omega), if_pos (by omega), if_pos (by omega)]
    · rw [if_neg (show ¬ (256 * r + 0 ≤ 256 * x + j ∧ 256 * x + j < 256 * r + 0 + 256) by omega)]
      by_cases d : r + 1 ≤ x ∧ x < r + 1 + m
      · rw [if_pos d, if_pos (by omega)]
      · rw [if_neg d, if_neg (by omega)]
theorem rz_at : ∀ m k (A : tS) p q, rz k m A p q = if (p = 48 ∨ p = 49) ∧ k ≤ q ∧ q < k + m then 0 else A p q
  | 0, k, A, p, q => by
    unfold rz
    rw [if_neg (by omega)]
  | m + 1, k, A, p, q => by
    unfold rz
    rw [rz_at m (k + 1)]
    by_cases d : (p = 48 ∨ p = 49) ∧ k + 1 ≤ q ∧ q < k + 1 + m
    · rw [if_pos d, if_pos (by omega)]
    · rw [if_neg d, up2_if, up2_if]
      by_cases c : (p = 48 ∨ p = 49) ∧ q = k
      · rw [if_pos (show (p = 48 ∨ p = 49) ∧ k ≤ q ∧ q < k + (m + 1) by omega)]
        by_cases e : p = 48 ∧ q = k
        · rw [if_pos e]
        · rw [if_neg e, if_pos (by omega)]
      · rw [if_neg (by omega), if_neg (by omega), if_neg (by omega)]
/-- what recovery leaves, before nameless nodes go -/
theorem ud4_f : (∀ o, o ≠ 47 → o ≠ 48 → o ≠ 49 → o ≠ 50 → o ≠ 51 → o ≠ 52 → o ≠ 71 → ud4 B to en s o = ud0 B to en s o) ∧ (∀ b, b < 6200 → ud4 B to en s 51 b = 0 ∧ ud4 B to en s 52 b = 0) ∧ (∀ n, n < 64 → ud4 B to en s 50 n = 0) ∧ (∀ r, r < B 35 7 → ud4 B to en s 48 r = 0 ∧ ud4 B to en s 49 r = 0) ∧ (∀ h, h < 16 → ud4 B to en s 71 h = 0) ∧
    ∀ r j, r < B 35 7 → j < 256 → ud4 B to en s 47 (256 * r + j) = bif baF (ud4 B to en s) r then ud4 B to en s 41 (256 * r + j) else 0 := by
  have o1 : ∀ o, o ≠ 47 → ud4 B to en s o = fl 71 0 0 16 (rz 0 (B 35 7) (egA (ud0 B to en s))) o := fun o ho => baN_o ho _ _ _
  have o2 : ∀ o, o ≠ 47 → o ≠ 71 → ud4 B to en s o = rz 0 (B 35 7) (egA (ud0 B to en s)) o := fun o h1 h2 => by rw [o1 o h1, fl_row h2]
  have o3 : ∀ o, o ≠ 47 → o ≠ 71 → o ≠ 48 → o ≠ 49 → ud4 B to en s o = egA (ud0 B to en s) o := fun o h1 h2 h3 h4 => by
    rw [o2 o h1 h2]
    funext q
    rw [rz_at, if_neg (by omega)]
  have o4 : ∀ o, o ≠ 47 → o ≠ 48 → o ≠ 49 → o ≠ 50 → o ≠ 51 → o ≠ 52 → o ≠ 71 → ud4 B to en s o = ud0 B to en s o := fun o h1 h2 h3 h4 h5 h6 h7 => by
    rw [o3 o h1 h7 h2 h3]
    unfold egA
    rw [fl_row h4, fl_row h6, fl_row h5]
  refine ⟨o4, fun b hb => ⟨?_, ?_⟩, fun n hn => ?_, fun r hr => ⟨?_, ?_⟩, fun h hh => ?_, fun r j hr hj => ?_⟩
  · rw [o3 51 (by decide) (by decide) (by decide) (by decide)]
    unfold egA
    rw [fl_row (by decide), fl_row (by decide), fl_at, if_pos ⟨rfl, Nat.zero_le _, by omega⟩]
  · rw [o3 52 (by decide) (by decide) (by decide) (by decide)]
    unfold egA
    rw [fl_row (by decide), fl_at, if_pos ⟨rfl, Nat.zero_le _, by omega⟩]
  · rw [o3 50 (by decide) (by decide) (by decide) (by decide)]
    unfold egA
    rw [fl_at, if_pos ⟨rfl, Nat.zero_le _, by omega⟩]
  · rw [o2 48 (by decide) (by decide), rz_at, if_pos ⟨Or.inl rfl, Nat.zero_le _, by omega⟩]
  · rw [o2 49 (by decide) (by decide), rz_at, if_pos ⟨Or.inr rfl, Nat.zero_le _, by omega⟩]
  · rw [o1 71 (by decide), fl_at, if_pos ⟨rfl, Nat.zero_le _, by omega⟩]
  · have e : ud4 B to en s 47 (256 * r + j) = if 0 ≤ r ∧ r < 0 + B 35 7 then (bif baF (fl 71 0 0 16 (rz 0 (B 35 7) (egA (ud0 B to en s)))) r then fl 71 0 0 16 (rz 0 (B 35 7) (egA (ud0 B to en s))) 41 (256 * r + j) else 0) else fl 71 0 0 16 (rz 0 (B 35 7) (egA (ud0 B to en s))) 47 (256 * r + j) := baN_at _ _ _ _ _ hj
    rw [e, if_pos ⟨Nat.zero_le _, by omega⟩, baF_c (B := ud4 B to en s) (o1 35 (by decide)) (o1 36 (by decide)) (o1 39 (by decide)) (o1 40 (by decide)), o1 41 (by decide)]
/-- META is told by its own words alone -/
theorem MR_V (ho : okT A) (h : MR bi w W A) (e : ∀ q, q < 1088 → V q = W q) (e2 : ∀ r k, r < 2000 → us A r → (2000 ≤ (w r).2 ∨ nd A (w r).1 0 = 2) → k < 32 → V ((34 + r) * 32 + k) = W ((34 + r) * 32 + k)) : MR bi w V A := by
  obtain ⟨m1, m2, m3, m4⟩ := h
  have oe : ∀ c i, c * 32 + i / 8 < 1088 → oW V c i = oW W c i := fun c i hc => oW_e (e _ hc) rfl
  refine ⟨fun j hj => by rw [e j (by omega)]; exact m1 j hj, fun r hr => by rw [e _ (by omega)]; exact m2 r hr, fun n hn => ?_, fun r hr hu => ?_⟩
  · obtain ⟨a1, a2, a3, a4⟩ := m3 n hn
    have b4 := (nd_k ho hn).2.2.2.2
    refine ⟨by rw [e _ (by omega)]; exact a1, fun c i hi => by rw [oe _ _ (by omega)]; exact a2 c i hi, fun c i hi => by rw [e _ (by omega)]; exact a3 c i hi, fun c i hi => by rw [e _ (by omega)]; exact a4 c i hi⟩
  · obtain ⟨b1, b2⟩ := m4 r hr hu
    refine ⟨fun c k hk => by rw [e2 r k hr hu (Or.inl c) hk]; exact b1 c k hk, fun c d k hk => ?_⟩
    obtain ⟨c1, c2⟩ := b2 c d k hk
    have l := (eZ_lt ho (r := r) hk).2.1
    have oe2 : ∀ i, i / 8 < 32 → oW V (34 + r) i = oW W (34 + r) i := fun i hi => oW_e (e2 r _ hr hu (Or.inr d) hi) rfl
    refine ⟨fun q i hi => by rw [show (34 + r) * 32 + k * 4 + i = (34 + r) * 32 + (k * 4 + i) by omega, e2 r _ hr hu (Or.inr d) (by omega), show (34 + r) * 32 + (k * 4 + i) = (34 + r) * 32 + k * 4 + i by omega]; exact c1 q i hi, fun q => ?_⟩
    obtain ⟨d1, d2, d3⟩ := c2 q
    exact ⟨by rw [oe2 _ (by omega)]; exact d1, by rw [oe2 _ (by omega)]; exact d2, fun i hi => by rw [oe2 _ (by omega)]; exact d3 i hi⟩
/-- no marks, no handles; bytes as the disk has them -/
def NM (A : tS) : Prop := (∀ b, b < 6200 → A 51 b = 0 ∧ A 52 b = 0) ∧ (∀ n, n < 64 → A 50 n = 0) ∧ (∀ r, r < A 35 7 → A 48 r = 0 ∧ A 49 r = 0) ∧ (∀ h, h < 16 → A 71 h = 0) ∧ ∀ r j, r < A 35 7 → j < 256 → A 47 (256 * r + j) = bif baF A r then A 41 (256 * r + j) else 0
theorem SR_load (hM : MR bi w (mW D 0) A) (hT : TI w A) (ho : okT A) (hb : ∀ r, r < 2000 → us A r → bi (se A r) ≠ 0) (hR : DR bi sp C D A) (hG : RG bi A) (hI : MI bi C A) (hm : NM A) (h6 : A 35 7 ≤ 2000 ∧ A 35 6 ≤ 4096) (h16 : C 10 16 = A 35 28 + 1) (hlt : A 35 28 < 1000) (h19 : ∀ n, n < 64 → C 19 n = 0) (hE : LE bi w A C D C1) (hW : ∀ q, q < 65088 → W q = mW D 0 q) : SR bi w (upR (fl 32 0 0 16 C1) 100 W) A := by
  obtain ⟨C0, ⟨p1, p2, p3, p4⟩, l1, l2, l3⟩ := hE
  obtain ⟨n1, n2, n3, n4, n5⟩ := hm
  obtain ⟨i1, ⟨i2, i3⟩, ⟨i4, i5, i6⟩, i7⟩ := hI
  obtain ⟨f1, f2, f3⟩ := rd0_f (C := ldM D 34 C)
  have ro : ∀ p, p ≠ 11 → ldM D 34 C p = C p := fun p hp => by
    funext q
    unfold ldM
    rw [if_neg (fun e => hp e.1)]
  have c7 := i1.1
  generalize hX : upR (fl 32 0 0 16 C1) 100 W = X
  have xo : ∀ p, p ≠ 32 → p ≠ 100 → X p = C1 p := fun p a b => by rw [← hX, upR_nn b, fl_row a]
  have x100 : ∀ q, q < 65088 → X 100 q = mW D 0 q := fun q hq => by rw [← hX, upR_ss]; exact hW q hq
  have x32 : ∀ h, h < 16 → X 32 h = 0 := fun h hh => by rw [← hX, upR_nn (by decide), fl_at, if_pos ⟨rfl, Nat.zero_le _, by omega⟩]
  have t10 : ∀ q, q ≠ 9 → X 10 q = if q = 14 then 34 else if 9 ≤ q ∧ q ≤ 13 then 0 else C 10 q := fun q hq => by
    rw [xo 10 (by decide) (by decide), l1 10 (by decide) (by decide) (by decide), p2 q hq, f2 q, ro 10 (by decide)]
  have x7 : X 10 7 = C 10 7 := t10 7 (by decide)
  have x15 : X 10 15 = C 10 15 := t10 15 (by decide)
  have x16 : X 10 16 = C 10 16 := t10 16 (by decide)
  have x8 : X 10 8 = C 10 8 := t10 8 (by decide)
  have mk : ∀ q, X 15 q = 0 ∧ X 16 q = 0 ∧ X 17 q = 0 := fun q => by
    rw [xo 15 (by decide) (by decide), xo 16 (by decide) (by decide), xo 17 (by decide) (by decide), l1 15 (by decide) (by decide) (by decide), l1 16 (by decide) (by decide) (by decide), l1 17 (by decide) (by decide) (by decide), p1 15 (by decide) (by decide), p1 16 (by decide) (by decide), p1 17 (by decide) (by decide)]
    exact f3 q
  have e11 : ∀ q, q < 1088 → rd0 (ldM D 34 C) 11 q = mW D 0 q := fun q hq => by
    rw [f1 11 (by decide) (by decide) (by decide) (by decide)]
    unfold ldM
    by_cases c : 32 ≤ q
    · rw [if_pos ⟨rfl, c, hq⟩]
    · rw [if_neg (by omega), i7 q (by omega)]
      exact (hM.1 q (by omega)).symm
  have x11 : ∀ q, q < 1088 → X 11 q = mW D 0 q := fun q hq => by
    rw [xo 11 (by decide) (by decide), l2 q hq, p1 11 (by decide) (by decide), e11 q hq]
  have x12 : ∀ r, r < A 35 7 → X 12 (34 + r) = if A 36 (6080 + r * 274) ≠ 0 then 0 else 1 := fun r hr => by
    rw [xo 12 (by decide) (by decide), l1 12 (by decide) (by decide) (by decide), p3, if_pos ⟨by omega, by omega⟩]
    unfold fbM
    have := hM.2.1 r (by omega)
    rw [show 34 + r - 34 = r by omega, e11 _ (by omega)]
    by_cases c : A 36 (6080 + r * 274) ≠ 0
    · rw [if_pos ⟨by omega, c⟩] at this
      rw [this, if_pos c, if_neg (by decide)]
    · rw [if_neg (fun e => c e.2)] at this
      rw [this, if_neg c, if_pos rfl]
  have xb : ∀ r, r < 2000 → us A r → X 13 (34 + r) = bi (se A r) ∧ X 14 (34 + r) = (w r).1 ∧ ∀ k, k < 32 → X 11 ((34 + r) * 32 + k) = gW bi w A C0 D r k := fun r hr hu => by
    rw [xo 13 (by decide) (by decide), xo 14 (by decide) (by decide), xo 11 (by decide) (by decide)]
    exact l3 r hr hu trivial
  have xm : ∀ r k, r < 2000 → us A r → (2000 ≤ (w r).2 ∨ nd A (w r).1 0 = 2) → k < 32 → X 11 ((34 + r) * 32 + k) = mW D 0 ((34 + r) * 32 + k) := fun r k hr hu hm hk => by
    rw [(xb r hr hu).2.2 k hk]
    unfold gW
    rw [if_neg (by omega), rwD_mW, show ((34 + r) * 32 + k) / 32 = 34 + r by omega, show ((34 + r) * 32 + k) % 32 = k by omega]
  have cX : ci X := by
    refine ⟨⟨by rw [x7]; omega, by rw [x7]; omega, by rw [x8]; omega⟩, ⟨?_, ?_, ?_⟩, fun c _ => mk c⟩
    · rw [t10 11 (by decide)]
      exact (cn_all0 2034 0 (fun x _ _ => by simp [(mk x).1])).symm
    · rw [t10 12 (by decide)]
      exact (cn_all0 2034 0 (fun x _ _ => by simp [(mk x).2.1])).symm
    · rw [t10 13 (by decide)]
      exact (cn_all0 2034 0 (fun x _ _ => by simp [(mk x).2.2])).symm
  have uz : ∀ r, us A r → A 36 (6080 + r * 274) = 1 := fun r hu => by
    have := ho (6080 + r * 274)
    have e := bT_r (w := 0) r (by omega)
    rw [Nat.add_zero] at e
    rw [e] at this
    have b : bR 0 = 2 := rfl
    rw [b] at this
    unfold us at hu
    omega
  refine ⟨⟨cX, ⟨?_, ?_, ⟨?_, ?_⟩, fun c a b => ?_⟩, by rw [x16]; omega, by rw [x16]; omega⟩, hT, MR_V ho hM x11 xm, fun r hr hu h2 h1 j hj => ?_, ⟨fun x => by rw [x15]; exact i4 x, i5, i6, hb⟩, ⟨⟨by rw [x7]; exact i2, by rw [x8]; exact i3, by rw [x16]; exact h16, h6.1, h6.2⟩, fun r hr => ?_, fun r hr hu => ?_, fun c a b => ?_, fun b hb' => ?_, fun r hr => ?_, fun c _ => (mk c).2.2, fun n hn => ?_, fun h hh => ?_, fun r hr q => ?_⟩, ho, ⟨fun c a b _ j hj => ?_, fun r hr hu hm _ j hj => ?_, fun r _ q => absurd (mk _).2.1 q, fun c _ => (mk c).2.1, fun r hr q => ?_⟩⟩
  · rw [xo 10 (by decide) (by decide), l1 10 (by decide) (by decide) (by decide), p4, p2 7 (by decide), f2 7, if_neg (by decide), if_neg (by decide), ro 10 (by decide)]
    refine cn_congr _ _ (fun x a b => ?_)
    rw [xo 12 (by decide) (by decide), l1 12 (by decide) (by decide) (by decide), p3, if_pos ⟨a, by omega⟩]
  · rw [t10 10 (by decide), x7]
    refine (cn_all0 _ _ (fun x a b => ?_)).symm
    have := x12 (x - 34) (by omega)
    rw [show 34 + (x - 34) = x by omega] at this
    rw [this]
    split <;> rfl
  · rw [t10 14 (by decide)]
    exact Nat.le_refl _
  · rw [t10 14 (by decide), x7, if_pos rfl]
    omega
  · rw [t10 14 (by decide), if_pos rfl] at b
    omega
  · have rb := (hT.1 r hr hu).1
    have kb := hR.2.2.2.1 (34 + A 35 6 + r) (by omega)
    have gk := hG.1 (34 + A 35 6 + r) (by omega)
    have c2 : C0 2 = C 2 := by rw [p1 2 (by decide) (by decide), f1 2 (by decide) (by decide) (by decide) (by decide), ro 2 (by decide)]
    show by8 (X 11 ((34 + r) * 32 + j / 8)) (j % 8) = A 47 (256 * r + j)
    rw [(xb r hr hu).2.2 (j / 8) (by omega), n5 r j rb hj]
    unfold gW
    rw [if_pos ⟨h2, h1⟩, c2, kb.1]
    have z8 : by8 0 (j % 8) = 0 := by
      unfold by8
      rw [Nat.zero_div]
    have bf : baF A r = (A 39 (34 + A 35 6 + r) == 3 && A 40 (34 + A 35 6 + r) == se A r) := by
      unfold baF
      rw [uz r hu]
      rfl
    rw [bf]
    by_cases c3 : A 39 (34 + A 35 6 + r) = 3
    · obtain ⟨-, a, k2, k3⟩ := kb.2 c3
      rw [c3]
      show by8 (if bi (A 40 (34 + A 35 6 + r)) = bi (se A r) then _ else 0) _ = _
      by_cases c4 : A 40 (34 + A 35 6 + r) = se A r
      · rw [c4, if_pos rfl]
        unfold rwD
        rw [k2]
        have := k3 j hj
        rw [show 34 + A 35 6 + r - 34 - A 35 6 = r by omega] at this
        simpa using this
      · rw [if_neg (fun e => c4 ((i6 _ _ (hb r hr hu) e.symm).symm)), z8]
        have : (A 40 (34 + A 35 6 + r) == se A r) = false := by simpa using c4
        rw [this]
        rfl
    · have w0 : A 39 (34 + A 35 6 + r) = 0 := by
        have := gk.1
        unfold rgP at this
        omega
      rw [w0]
      show by8 (if 0 = bi (se A r) then _ else 0) _ = _
      rw [if_neg (fun e => hb r hr hu e.symm), z8]
      rfl
  · rw [x12 r hr]
    by_cases c : A 36 (6080 + r * 274) ≠ 0
    · rw [if_pos c, if_pos c]
    · rw [if_neg c, if_neg c, (n3 r hr).2, if_pos rfl]
  · obtain ⟨a1, a2, -⟩ := xb r (by omega) hu
    exact ⟨a1, a2, (n3 r hr).2⟩
  · have : nbA A c < 6200 := by
      unfold nbA
      split <;> omega
    exact ⟨⟨fun _ => (n1 _ this).1, fun _ => (mk c).1⟩, ⟨fun _ => (n1 _ this).2, fun _ => (mk c).2.1⟩⟩
  · exact n1 b (by omega)
  · exact ⟨fun _ => (n3 r hr).1, fun _ => (mk _).2.2⟩
  · rw [xo 19 (by decide) (by decide), l1 19 (by decide) (by decide) (by decide), p1 19 (by decide) (by decide), f1 19 (by decide) (by decide) (by decide) (by decide), ro 19 (by decide)]
    exact ⟨fun _ => n2 n hn, fun _ => h19 n hn⟩
  · rw [x32 h hh, n4 h hh]
  · exact absurd (n3 r hr).1 q
  · rw [x100 _ (by omega)]
    exact x11 _ (by omega)
  · rw [x100 _ (by omega)]
    exact xm r j hr hu hm hj
  · exact absurd (n3 r hr).1 q
end SRL
