/-! ===== PURE: a group posted: the relation behind it ===== -/
/-- the record of the group -/
def RJ (A : tS) (J : tJ) (k un : Nat) : Prop := J.1 42 k = cn (tch A) 0 (blk A) ∧ J.1 43 k = cn (rvk A) 0 (blk A) ∧ (∀ b, b < blk A → tch A b = true → J.1 44 (J.1 41 k + cn (tch A) 0 b) = b) ∧ (∀ b, b < blk A → rvk A b = true → J.1 44 (J.1 41 k + J.1 42 k + cn (rvk A) 0 b) = b) ∧ J.1 40 k = un ∧ J.2.2.2 un (A 36)
/-- the class's cells behind append, with the words that the journal has then -/
def apG (C : tS) (D2 : tD) (sz m : Nat) : tS := upR (apC C sz) 100 (fun q => if q < 65088 then mW D2 m q else 0)
section PEO
variable {Φ : tPh} {b0 fu : Nat} {σ τ : tM} {bi sp : Nat → Nat} {w : Nat → Nat × Nat} {C C' : tS} {D D' : tD} {A B : tS} {J J' : tJ} {K n m k sz un x : Nat} {tl z rl : Nat → Nat}
theorem RJ_dk (h : RJ A J k un) (o : dkO A B) : RJ B J k un := by
  have tc : tch B = tch A := by funext b; unfold tch; rw [o.1 51 (by decide) (by decide)]
  have rv : rvk B = rvk A := by funext b; unfold rvk; rw [o.1 52 (by decide) (by decide)]
  have bk : blk B = blk A := by unfold blk; rw [o.2 6 (by decide) (by decide) (by decide) (by decide) (by decide) (by decide), o.2 7 (by decide) (by decide) (by decide) (by decide) (by decide) (by decide)]
  unfold RJ
  rw [tc, rv, bk, o.1 36 (by decide) (by decide)]
  exact h
theorem cmF_f : (∀ q, cmF A sz 35 q = if q = 28 then A 35 28 + 1 else if q = 33 then (A 35 33 + sz) % A 35 6 else A 35 q) ∧ (∀ r, r < A 35 7 → cmF A sz 49 r = if A 49 r = 1 then A 35 28 + 2 else A 49 r) ∧ (∀ n, n < 64 → cmF A sz 50 n = 0) ∧ (∀ b, b < 6200 → cmF A sz 51 b = 0 ∧ cmF A sz 52 b = 0) ∧ (∀ b, A 51 b = 0 → cmF A sz 51 b = 0) ∧ (∀ b, A 52 b = 0 → cmF A sz 52 b = 0) ∧ (∀ o, o ≠ 35 → o ≠ 49 → o ≠ 50 → o ≠ 51 → o ≠ 52 → cmF A sz o = A o) := by
  have e : ∀ o j, cmE A sz o j = if o = 50 ∧ j < 64 then 0 else if o = 52 ∧ j < 6200 then 0 else if o = 51 ∧ j < 6200 then 0 else up2 (up2 A 35 33 ((A 35 33 + sz) % A 35 6)) 35 28 (A 35 28 + 1) o j := fun o j => by
    unfold cmE egA
    rw [fl_at, fl_at, fl_at]
    by_cases c : o = 50 ∧ j < 64
    · rw [if_pos ⟨c.1, Nat.zero_le _, by omega⟩, if_pos c]
    · rw [if_neg (by omega), if_neg c]
      by_cases d : o = 52 ∧ j < 6200
      · rw [if_pos ⟨d.1, Nat.zero_le _, by omega⟩, if_pos d]
      · rw [if_neg (by omega), if_neg d]
        by_cases f : o = 51 ∧ j < 6200
        · rw [if_pos ⟨f.1, Nat.zero_le _, by omega⟩, if_pos f]
        · rw [if_neg (by omega), if_neg f]
  have e35 : ∀ q, cmE A sz 35 q = if q = 28 then A 35 28 + 1 else if q = 33 then (A 35 33 + sz) % A 35 6 else A 35 q := fun q => by
    rw [e, if_neg (by omega), if_neg (by omega), if_neg (by omega)]
    by_cases c : q = 28
    · rw [if_pos c, c, up2_s]
    · rw [if_neg c, up2_j c]
      by_cases d : q = 33
      · rw [if_pos d, d, up2_s]
      · rw [if_neg d, up2_j d]
  have e49 : ∀ q, cmE A sz 49 q = A 49 q := fun q => by rw [e, if_neg (by omega), if_neg (by omega), if_neg (by omega), up2_o (by decide), up2_o (by decide)]
  have r := rtc_at (A 35 28 + 1) (by omega) (A 35 7) 0 (cmE A sz)
  unfold cmF
  refine ⟨fun q => ?_, fun q hq => ?_, fun n hn => ?_, fun b hb => ⟨?_, ?_⟩, fun b hb => ?_, fun b hb => ?_, fun o h1 h2 h3 h4 h5 => ?_⟩
  · rw [r, if_neg (by omega), e35]
  · rw [r, e49]
    by_cases c : A 49 q = 1
    · rw [if_pos c, if_pos ⟨rfl, Nat.zero_le _, by omega, c⟩]
      omega
    · rw [if_neg c, if_neg (fun f => c f.2.2.2)]
  · rw [r, if_neg (by omega), e, if_pos ⟨rfl, hn⟩]
  · rw [r, if_neg (by omega), e, if_neg (by omega), if_neg (by omega), if_pos ⟨rfl, hb⟩]
  · rw [r, if_neg (by omega), e, if_neg (by omega), if_pos ⟨rfl, hb⟩]
  · rw [r, if_neg (by omega), e, if_neg (by omega), if_neg (by omega), up2_o (by decide), up2_o (by decide), hb]
    split <;> rfl
  · rw [r, if_neg (by omega), e, if_neg (by omega), up2_o (by decide), up2_o (by decide), hb]
    split
    · rfl
    · split <;> rfl
  · funext q
    rw [r, if_neg (fun f => h2 f.1), e, if_neg (by omega), if_neg (by omega), if_neg (by omega), up2_o h1, up2_o h1]
theorem RO_end (hΦ : goodT Φ) (hok : ∀ w A, Φ w A → okT A) (h : PG Φ bi sp w C D A J sz sz) (hJ : RJ A J (A 35 28 - A 35 35) un) (hl : A 35 28 + 1 < 1000) (lt : LSt C D' (C 10 7) (C 10 11) tl z) (ls : LSr C (C 10 7) (C 10 12) rl) (sp' : sP D D') (kw : KW D D') (hsz : sz < 1000000) :
    RO Φ bi sp w (apG C (adT D' x (C 20 17) (C 20 10) sz (C 10 11) (C 10 12) tl z rl) sz (A 35 28 + 1 - A 35 35)) (adT D' x (C 20 17) (C 20 10) sz (C 10 11) (C 10 12) tl z rl) (cmF A sz) J := by
  obtain ⟨hCO, hSR, hT, hLc, hHc, hgh, hon, hnr, h46, ⟨p1, p2, p3, p4, p5⟩, p6, p7, p8⟩ := h
  obtain ⟨r1, r2, r3, r4, r5, r6, r7, r8, r9, r10⟩ := hCO
  obtain ⟨v1, v2, v3, v4, v5, v6⟩ := r2
  have jo := v3
  unfold JO at jo
  obtain ⟨f1, f2, f3, f4, f5, f6, f7, f8⟩ := v1
  obtain ⟨y1, y2, y3, y4, y5, y6, y7⟩ := cmF_f (A := A) (sz := sz)
  have yq : ∀ q, q ≠ 28 → q ≠ 33 → cmF A sz 35 q = A 35 q := fun q a b => by rw [y1, if_neg a, if_neg b]
  have y28 : cmF A sz 35 28 = A 35 28 + 1 := by rw [y1, if_pos rfl]
  have y33 : cmF A sz 35 33 = (A 35 33 + sz) % A 35 6 := by rw [y1, if_neg (by decide), if_pos rfl]
  obtain ⟨q1, q2, q3, q4, q5⟩ := sp'
  obtain ⟨R1, R2, R3, R4, R5, R6⟩ := gs_parts hSR
  obtain ⟨⟨z1, z2, z3, z4, z5⟩, z6, z7, z8, z9, z10, z11, z12, z13, z14⟩ := hSR.zm
  have hci := hSR.rk.1
  have lv : dH D - dL D = A 35 28 - A 35 35 := by rw [v2.1, v2.2]
  have lv1 : A 35 28 + 1 - A 35 35 = A 35 28 - A 35 35 + 1 := by omega
  have eT : C 10 11 = cn (p15 C) 0 (C 10 7) := by
    have e7 : nbA A (34 + A 35 7) = blk A := by
      unfold nbA blk
      rw [if_neg (by omega)]
      omega
    rw [R3, ← e7, ← R1 _ (Nat.le_refl _), z1]
  have eR : C 10 12 = cn (p16 C) 0 (C 10 7) := by
    have e7 : nbA A (34 + A 35 7) = blk A := by
      unfold nbA blk
      rw [if_neg (by omega)]
      omega
    rw [R4, ← e7, ← R2 _ (Nat.le_refl _), z1]
  have sPd : sP D D' := ⟨q1, q2, q3, q4, q5⟩
  -- words
  have wN : ∀ c j, c < C 10 7 → j < 32 → mW (adT D' x (C 20 17) (C 20 10) sz (C 10 11) (C 10 12) tl z rl) (A 35 28 + 1 - A 35 35) (c * 32 + j) = if C 16 c ≠ 0 then 0 else if C 15 c ≠ 0 then C 11 (c * 32 + j) else mW D (A 35 28 - A 35 35) (c * 32 + j) := fun c j hc hj => by
    have := mW_new (x := x) (st := C 20 17) (at_ := C 20 10) (sz := sz) sPd kw (by rw [v2.1, v2.2]; omega) lt ls eT eR (c := c) (j := j) (by omega) hc hj
    rw [lv] at this
    rw [lv1, this]
  have wO : ∀ m q, m ≤ A 35 28 - A 35 35 → q < 65088 → mW (adT D' x (C 20 17) (C 20 10) sz (C 10 11) (C 10 12) tl z rl) m q = mW D m q := fun m q hm hq => mW_old sPd kw (by rw [v2.1, v2.2]; omega) (by omega) (by omega)
  generalize hD2 : adT D' x (C 20 17) (C 20 10) sz (C 10 11) (C 10 12) tl z rl = D2 at wN wO
  have dP2 : dP D2 = dP D := by rw [← hD2]; exact q1
  have dW2 : dW D2 = dW D' := by rw [← hD2]; rfl
  have dL2 : dL D2 = dL D := by rw [← hD2]; exact q4
  have dH2 : dH D2 = dH D + 1 := by
    rw [← hD2]
    show dH D' + 1 = _
    rw [q5]
  have dTn : ∀ f n, n ≤ dH D → dT D2 f n = dT D f n := fun f n hn => by
    rw [← hD2]
    show (if n = dH D' + 1 then _ else dT D' f n) = _
    rw [if_neg (by rw [q5]; omega), q2]
  have dXn : ∀ f n k, n ≤ dH D → dX D2 f n k = dX D f n k := fun f n k hn => by
    rw [← hD2]
    show (if n = dH D' + 1 then _ else dX D' f n k) = _
    rw [if_neg (by rw [q5]; omega), q3]
  have dTx : ∀ f, dT D2 f (dH D + 1) = (if f = 0 then x else if f = 2 then C 20 17 else if f = 3 then C 20 10 else if f = 4 then sz else if f = 5 then x + 1 else if f = 6 then x + 2 else if f = 7 then x + 3 else if f = 8 then C 10 11 else if f = 9 then C 10 12 else 0) := fun f => by
    rw [← hD2]
    show (if dH D + 1 = dH D' + 1 then _ else _) = _
    rw [if_pos (by rw [q5])]
  have dXx : ∀ f k, dX D2 f (dH D + 1) k = (if f = 0 then tl k else if f = 1 then z k else rl k) := fun f k => by
    rw [← hD2]
    show (if dH D + 1 = dH D' + 1 then _ else _) = _
    rw [if_pos (by rw [q5])]
  -- the class's cells
  generalize hC2 : apG C D2 sz (A 35 28 + 1 - A 35 35) = C2
  have g100 : ∀ q, q < 65088 → C2 100 q = mW D2 (A 35 28 + 1 - A 35 35) q := fun q hq => by
    rw [← hC2]
    unfold apG upR
    rw [if_pos rfl]
    exact if_pos hq
  have gp : ∀ p q, p ≠ 100 → C2 p q = apC C sz p q := fun p q hp => by
    rw [← hC2]
    exact if_neg hp
  have ap : ∀ p q, p ≠ 19 → apC C sz p q = emF (up2 (up2 (up2 C 20 12 (C 20 12 + 1)) 20 9 (C 20 9 + sz)) 20 10 (wrC C (C 20 10 + sz))) (C 20 12 + 2) p q := fun p q hp => by
    unfold apC
    rw [fl_at, if_neg (fun e => hp e.1)]
  have cp : ∀ p, p ≠ 100 → p ≠ 19 → p ≠ 15 → p ≠ 16 → p ≠ 10 → p ≠ 20 → C2 p = C p := fun p a b c d e f => by
    funext q
    rw [gp p q a, ap p q b]
    unfold emF
    rw [if_neg (by omega), if_neg e, up2_o f, up2_o f, up2_o f]
  have c15 : ∀ q, C2 15 q = 0 := fun q => by rw [gp 15 q (by decide), ap 15 q (by decide)]; rfl
  have c16 : ∀ q, C2 16 q = 0 := fun q => by rw [gp 16 q (by decide), ap 16 q (by decide)]; rfl
  have c19 : ∀ q, q < 64 → C2 19 q = 0 := fun q hq => by
    rw [gp 19 q (by decide)]
    unfold apC
    rw [fl_at, if_pos ⟨rfl, Nat.zero_le _, by omega⟩]
  have c10 : ∀ q, C2 10 q = if q = 11 ∨ q = 12 then 0 else if q = 16 then C 20 12 + 2 else C 10 q := fun q => by
    rw [gp 10 q (by decide), ap 10 q (by decide)]
    unfold emF
    rw [if_neg (by omega), if_pos rfl, up2_o (by decide), up2_o (by decide), up2_o (by decide)]
  have c20 : ∀ q, C2 20 q = if q = 10 then wrC C (C 20 10 + sz) else if q = 9 then C 20 9 + sz else if q = 12 then C 20 12 + 1 else C 20 q := fun q => by
    rw [gp 20 q (by decide), ap 20 q (by decide)]
    unfold emF
    rw [if_neg (by omega), if_neg (by decide)]
    by_cases a : q = 10
    · rw [if_pos a, a, up2_s]
    · rw [if_neg a, up2_j a]
      by_cases b : q = 9
      · rw [if_pos b, b, up2_s]
      · rw [if_neg b, up2_j b]
        by_cases c : q = 12
        · rw [if_pos c, c, up2_s]
        · rw [if_neg c, up2_j c]
  have ci2 : ci C2 := by
    have e := ci_em (g := C 20 12 + 2) hci
    have e2 : ci (emF C (C 20 12 + 2)) := e
    refine ci_cong e2 (fun q hq => ?_) ?_ ?_ ?_
    · rw [c10]
      unfold emF
      rw [if_neg (show ¬ ((10 : Nat) = 15 ∨ (10 : Nat) = 16) by decide), if_pos rfl]
    · funext q
      rw [c15]
      rfl
    · funext q
      rw [c16]
      rfl
    · rw [cp 17 (by decide) (by decide) (by decide) (by decide) (by decide) (by decide)]
      rfl
  have sd : sD A (cmF A sz) := ⟨y7 39 (by decide) (by decide) (by decide) (by decide) (by decide), y7 40 (by decide) (by decide) (by decide) (by decide) (by decide), y7 42 (by decide) (by decide) (by decide) (by decide) (by decide), y7 43 (by decide) (by decide) (by decide) (by decide) (by decide), y7 44 (by decide) (by decide) (by decide) (by decide) (by decide), yq 15 (by decide) (by decide), yq 16 (by decide) (by decide)⟩
  have wb : ∀ k i, whB (cmF A sz) J k i = whB A J k i := fun k i => by unfold whB; rw [yq 6 (by decide) (by decide)]
  have Y36 := y7 36 (by decide) (by decide) (by decide) (by decide) (by decide)
  have h33 : A 35 33 < A 35 6 := by
    rw [v4.2.1]
    exact Nat.mod_lt _ (by omega)
  have h100 : ∀ q, q < 65088 → C 100 q = mW D (A 35 28 - A 35 35) q := hgh
  obtain ⟨gg1, gg2, gg3, gg4, gg5⟩ := hSR.gh
  have zero0 : ∀ j, j < 32 → mW D (A 35 28 - A 35 35) j = 0 := fun j hj => by
    obtain ⟨s, w', -, k2, -, -⟩ := r4 (A 35 28) (by omega) (Nat.le_refl _)
    exact k2.1 j hj
  have nw1 : ∀ c j, 1 ≤ c → c < 34 → j < 32 → mW D2 (A 35 28 + 1 - A 35 35) (c * 32 + j) = C 11 (c * 32 + j) := fun c j a b hj => by
    rw [wN c j (by omega) hj, if_neg (show ¬ C 16 c ≠ 0 from fun q => q (gg4 c b))]
    by_cases d : C 15 c = 0
    · rw [if_neg (show ¬ C 15 c ≠ 0 from fun q => q d), ← h100 _ (by omega), gg1 c a b d j hj]
    · rw [if_pos d]
  have nw2 : ∀ r j, r < 2000 → us A r → (2000 ≤ (w r).2 ∨ nd A (w r).1 0 = 2) → j < 32 → mW D2 (A 35 28 + 1 - A 35 35) ((34 + r) * 32 + j) = C 11 ((34 + r) * 32 + j) := fun r j hr hu hm hj => by
    have rlt := (hSR.ti.1 r hr hu).1
    have n16 : C 16 (34 + r) = 0 := Classical.byContradiction (fun q => by
      have a := gg3 r rlt q
      have b := (z7 r rlt hu).2.2
      omega)
    rw [wN (34 + r) j (by omega) hj, if_neg (show ¬ C 16 (34 + r) ≠ 0 from fun q => q n16)]
    by_cases d : C 15 (34 + r) = 0
    · rw [if_neg (show ¬ C 15 (34 + r) ≠ 0 from fun q => q d), ← h100 _ (by omega), gg2 r hr hu hm d j hj]
    · rw [if_pos d]
  have nw0 : ∀ j, j < 32 → mW D2 (A 35 28 + 1 - A 35 35) j = 0 := fun j hj => by
    have := wN 0 j (by omega) hj
    rw [Nat.zero_mul, Nat.zero_add, if_neg (show ¬ C 16 0 ≠ 0 from fun q => q (hci.2.2 0 (Or.inl rfl)).2.1), if_neg (show ¬ C 15 0 ≠ 0 from fun q => q (hci.2.2 0 (Or.inl rfl)).1)] at this
    rw [this, zero0 j hj]
  refine ⟨⟨?_, ⟨⟨?_, ?_, ?_, ?_, ?_, ?_, ?_, ?_⟩, ?_, ?_, ⟨?_, ?_, ?_⟩, ?_, ?_⟩, ?_, ?_, ?_, ?_, ?_, ?_, ?_, ?_⟩, ?_, ?_, ?_, ?_, ?_, ?_, ?_, ?_⟩
  · refine DR_all r1 (fun p hp => cp p (by omega) (by omega) (by omega) (by omega) (by omega) (by omega)) (by rw [dP2]) (by rw [dP2]) (fun o j a hp _ e => by rw [dW2]; exact kw.1 o j a hp e) (fun o a b => y7 o (by omega) (by omega) (by omega) (by omega) (by omega)) (fun q hq => yq q (by omega) (by omega))
  · rw [c20, if_neg (by decide), if_neg (by decide), if_neg (by decide), f1, yq 6 (by decide) (by decide)]
  · rw [c20, if_pos rfl, y33]
    unfold wrC
    rw [f1, if_pos (by omega), f2]
  · rw [c20, if_neg (by decide), if_neg (by decide), if_neg (by decide), f3, yq 46 (by decide) (by decide)]
  · rw [c20, if_neg (by decide), if_neg (by decide), if_pos rfl, f4, y28]
  · rw [c20, if_neg (by decide), if_neg (by decide), if_neg (by decide), f5, yq 29 (by decide) (by decide)]
  · rw [c20, if_neg (by decide), if_neg (by decide), if_neg (by decide), f6, yq 30 (by decide) (by decide)]
  · rw [c20, if_neg (by decide), if_neg (by decide), if_neg (by decide), f7, yq 31 (by decide) (by decide)]
  · rw [c20, if_neg (by decide), if_neg (by decide), if_neg (by decide), f8, yq 32 (by decide) (by decide)]
  · rw [dL2, dH2, yq 35 (by decide) (by decide), y28, v2.1, v2.2]
    exact ⟨rfl, rfl⟩
  · unfold JO
    rw [y28, yq 29 (by decide) (by decide), yq 30 (by decide) (by decide), yq 31 (by decide) (by decide), yq 32 (by decide) (by decide), yq 35 (by decide) (by decide), yq 6 (by decide) (by decide), yq 7 (by decide) (by decide)]
    omega
  · intro k hk
    rw [y28, yq 35 (by decide) (by decide)] at hk
    rw [yq 46 (by decide) (by decide), yq 6 (by decide) (by decide)]
    by_cases c : k = A 35 28 - A 35 35
    · rw [c, p2]
      exact v4.2.1
    · exact v4.1 k (by omega)
  · rw [y33, y28, yq 35 (by decide) (by decide), yq 46 (by decide) (by decide), yq 6 (by decide) (by decide), lv1, szL_1, p3, v4.2.1, Nat.mod_add_mod, Nat.add_assoc]
  · rw [y28, yq 35 (by decide) (by decide), yq 46 (by decide) (by decide), yq 6 (by decide) (by decide), lv1, szL_1, p3]
    exact ⟨p4, v4.2.2.2⟩
  · rw [c20, if_neg (by decide), if_pos rfl, v5, y28, yq 35 (by decide) (by decide), lv1, szL_1, p3]
  · intro n n1 n2
    rw [dL2] at n1
    rw [dH2] at n2
    have nb : ∀ c, nbA (cmF A sz) c = nbA A c := fun c => by unfold nbA; rw [yq 6 (by decide) (by decide)]
    by_cases c : n = dH D + 1
    · subst c
      obtain ⟨j1, j2, j3, j4, j5, j6⟩ := hJ
      have hk : dH D + 1 - cmF A sz 35 35 - 1 = A 35 28 - A 35 35 := by rw [yq 35 (by decide) (by decide), v2.2]; omega
      have d2 : dT D2 2 (dH D + 1) = C 20 17 := by rw [dTx]; rfl
      have d3 : dT D2 3 (dH D + 1) = C 20 10 := by rw [dTx]; rfl
      have d4 : dT D2 4 (dH D + 1) = sz := by rw [dTx]; rfl
      have d8 : dT D2 8 (dH D + 1) = C 10 11 := by rw [dTx]; rfl
      have d9 : dT D2 9 (dH D + 1) = C 10 12 := by rw [dTx]; rfl
      have x0 : ∀ k, dX D2 0 (dH D + 1) k = tl k := fun k => by rw [dXx]; rfl
      have x2 : ∀ k, dX D2 2 (dH D + 1) k = rl k := fun k => by rw [dXx]; rfl
      have b11 := cn_le (p15 C) (C 10 7) 0
      have b12 := cn_le (p16 C) (C 10 7) 0
      have c72 := hci.1.2.1
      unfold TR
      rw [hk, d2, d3, d4, d8, d9, yq 6 (by decide) (by decide), yq 7 (by decide) (by decide)]
      refine ⟨⟨by rw [p1]; exact p6.1, by rw [p1]; exact p6.2.1, by rw [p2]; exact f2, p3.symm, by rw [j1]; exact R3, by rw [j2]; exact R4⟩, fun i hi => ?_, fun i hi => ?_, fun i i' a b e => ?_, ⟨by rw [p3]; exact p5, by rw [p3]; omega, by rw [p2]; exact h33, by omega, by omega⟩⟩
      · obtain ⟨l1, l2, l3, l4, -⟩ := lt i hi
        rw [x0, nb]
        refine ⟨?_, l2, by rw [← z1]; exact l3⟩
        have tb : tch A (nbA A (tl i)) = true := by
          unfold tch
          have := (z8 (tl i) l2 (by omega)).1
          have : A 51 (nbA A (tl i)) ≠ 0 := fun e => l1 (this.mpr e)
          simp [this]
        have := j3 (nbA A (tl i)) (by unfold nbA blk; split <;> omega) tb
        rw [← R1 (tl i) (by omega), l4] at this
        exact this
      · obtain ⟨l1, l2, l3, l4⟩ := ls i hi
        rw [x2, nb]
        refine ⟨?_, l2, by rw [← z1]; exact l3⟩
        have tb : rvk A (nbA A (rl i)) = true := by
          unfold rvk
          have := (z8 (rl i) l2 (by omega)).2
          have : A 52 (nbA A (rl i)) ≠ 0 := fun e => l1 (this.mpr e)
          simp [this]
        have := j4 (nbA A (rl i)) (by unfold nbA blk; split <;> omega) tb
        rw [← R2 (rl i) (by omega), l4] at this
        exact this
      · rw [x0, x0] at e
        have e1 := (lt i a).2.2.2.1
        have e2 := (lt i' b).2.2.2.1
        rw [e, e2] at e1
        exact e1.symm
    · have t := v6 n n1 (by omega)
      have hn : n ≤ dH D := by omega
      unfold TR at t ⊢
      rw [yq 35 (by decide) (by decide), yq 6 (by decide) (by decide), yq 7 (by decide) (by decide), dTn 2 n hn, dTn 3 n hn, dTn 4 n hn, dTn 8 n hn, dTn 9 n hn]
      exact ⟨t.1, fun i hi => by rw [dXn 0 n i hn, nb]; exact t.2.1 i hi, fun i hi => by rw [dXn 2 n i hn, nb]; exact t.2.2.1 i hi, fun i i' a b e => t.2.2.2.1 i i' a b (by rw [dXn 0 n i hn, dXn 0 n i' hn] at e; exact e), t.2.2.2.2⟩
  · unfold JL
    rw [yq 6 (by decide) (by decide), yq 7 (by decide) (by decide)]
    exact r3
  · intro n n1 n2
    rw [yq 29 (by decide) (by decide)] at n1
    rw [y28] at n2
    by_cases c : n = A 35 28 + 1
    · subst c
      obtain ⟨j1, j2, j3, j4, j5, j6⟩ := hJ
      have e36 : upR (cmF A sz) 36 (A 36) 36 = A 36 := sr_36 _
      have e7 : upR (cmF A sz) 36 (A 36) 35 7 = A 35 7 := by rw [sr_o (by decide), yq 7 (by decide) (by decide)]
      have k3 := hΦ w A _ e36 e7 hT
      refine ⟨A 36, w, ?_, ?_, k3, ?_⟩
      · unfold udC
        rw [yq 35 (by decide) (by decide), if_pos (by omega), show A 35 28 + 1 - A 35 35 - 1 = A 35 28 - A 35 35 by omega, j5]
        exact j6
      · rw [yq 35 (by decide) (by decide)]
        exact MR_36 e36 (MR_sub (hok w A hT) hSR.mr nw0 nw1 nw2)
      · have := hSR.bj.2.2.2
        unfold us se at this ⊢
        rw [e36]
        exact this
    · obtain ⟨s, w', k1, k2, k3, k4⟩ := r4 n n1 (by omega)
      have e36 : upR (cmF A sz) 36 s 36 = upR A 36 s 36 := by rw [sr_36, sr_36]
      have e7 : upR (cmF A sz) 36 s 35 7 = upR A 36 s 35 7 := by rw [sr_o (by decide), sr_o (by decide), yq 7 (by decide) (by decide)]
      have k3' := hΦ w' _ _ e36 e7 k3
      have ud : udC (cmF A sz) J n = udC A J n := by unfold udC; rw [yq 35 (by decide) (by decide)]
      refine ⟨s, w', by rw [ud]; exact k1, ?_, k3', ?_⟩
      · rw [yq 35 (by decide) (by decide)]
        exact MR_W (hok w' _ k3') (MR_36 e36 k2) (fun q hq => wO _ q (by omega) hq)
      · unfold us se at k4 ⊢
        rw [e36]
        exact k4
  · exact LGd_dk r5 (fun q hq => yq q (by omega) (by omega)) (fun k i _ _ e => ⟨NV_sD sd e, cur_sD sd⟩)
  · have := AV_mono (AV_sD sd r6) (Q := fun b w i => b = 0 → (w = 1 ∧ A 35 35 ≤ i ∧ i ≤ A 35 28 + 1) ∨ (w ≠ 1 ∧ A 35 35 = 0)) (fun b w i q e => by
      rcases q e with a | a
      · exact Or.inl ⟨a.1, a.2.1, by omega⟩
      · exact Or.inr a)
    unfold HDd
    rw [yq 35 (by decide) (by decide), y28]
    exact this
  · have := AV_sD sd r7
    unfold RG
    rw [yq 6 (by decide) (by decide), yq 7 (by decide) (by decide), yq 34 (by decide) (by decide)]
    exact this
  · unfold SPJ
    rw [c20, if_neg (by decide), if_neg (by decide), if_neg (by decide), yq 34 (by decide) (by decide)]
    exact r8
  · obtain ⟨m1, m2, m3, m4⟩ := r9
    unfold MI
    rw [c10, c10, c10, if_neg (by decide), if_neg (by decide), if_neg (by decide), if_neg (by decide), if_neg (by decide), if_neg (by decide), cp 11 (by decide) (by decide) (by decide) (by decide) (by decide) (by decide), yq 6 (by decide) (by decide), yq 7 (by decide) (by decide), yq 34 (by decide) (by decide)]
    exact ⟨ci2, m2, m3, m4⟩
  · exact TP_all r10 (fun p hp => cp p (by omega) (by omega) (by omega) (by omega) (by omega) (by omega)) (fun o ho => y7 o (by omega) (by omega) (by omega) (by omega) (by omega)) (yq 57 (by decide) (by decide))
  · -- memory
    have e11 : C2 11 = C 11 := cp 11 (by decide) (by decide) (by decide) (by decide) (by decide) (by decide)
    have e12 : C2 12 = C 12 := cp 12 (by decide) (by decide) (by decide) (by decide) (by decide) (by decide)
    refine ⟨⟨ci2, sk_cong hSR.rk.2.1 e12 (fun q hq => by rw [c10, if_neg (by omega), if_neg (by omega)]), by rw [c10, if_neg (by decide), if_pos rfl, f4]; omega⟩, ?_, ?_, ?_, ?_, ?_, ?_, ?_⟩
    · have := hSR.ti
      unfold TI slo hasA leafA us nd pt eZ at this ⊢
      rw [Y36, yq 7 (by decide) (by decide)]
      exact this
    · rw [e11]
      exact MR_36 Y36 hSR.mr
    · rw [e11]
      have := hSR.fb
      unfold FB us nd at this ⊢
      rw [Y36, y7 47 (by decide) (by decide) (by decide) (by decide) (by decide)]
      exact this
    · have := hSR.bj
      unfold BJ us se at this ⊢
      rw [Y36, yq 34 (by decide) (by decide), c10, if_neg (by decide), if_neg (by decide)]
      exact this
    · unfold us se at z7
      unfold us at z14
      unfold ZM us se
      rw [Y36, y28, yq 6 (by decide) (by decide), yq 7 (by decide) (by decide), c10, c10, c10, if_neg (by decide), if_neg (by decide), if_neg (by decide), if_neg (by decide), if_neg (by decide), if_pos rfl, e12, cp 13 (by decide) (by decide) (by decide) (by decide) (by decide) (by decide), cp 14 (by decide) (by decide) (by decide) (by decide) (by decide) (by decide), cp 17 (by decide) (by decide) (by decide) (by decide) (by decide) (by decide), cp 32 (by decide) (by decide) (by decide) (by decide) (by decide) (by decide), y7 48 (by decide) (by decide) (by decide) (by decide) (by decide), y7 71 (by decide) (by decide) (by decide) (by decide) (by decide)]
      refine ⟨⟨z1, z2, by rw [f4], z4, z5⟩, fun r hr => ?_, fun r hr hu => ?_, fun c k1 k2 => ?_, fun b hb => ?_, z10, z11, fun n hn => ⟨fun _ => y3 n hn, fun _ => c19 n hn⟩, z13, z14⟩
      · rw [z6 r hr, y2 r hr]
        by_cases u : A 36 (6080 + r * 274) ≠ 0
        · rw [if_pos u, if_pos u]
        · rw [if_neg u, if_neg u]
          by_cases e0 : A 49 r = 0
          · rw [if_pos e0, if_neg (show ¬ A 49 r = 1 by omega), if_pos e0]
          · rw [if_neg e0]
            by_cases e1 : A 49 r = 1
            · rw [if_pos e1, if_neg (by omega), if_neg (by omega)]
            · simp only [if_neg e1, if_neg e0]
      · obtain ⟨a1, a2, a3⟩ := z7 r hr hu
        refine ⟨a1, a2, ?_⟩
        rw [y2 r hr, if_neg (by omega)]
        exact a3
      · have nb : nbA (cmF A sz) c = nbA A c := by unfold nbA; rw [yq 6 (by decide) (by decide)]
        have nlt : nbA A c < 6200 := by unfold nbA; split <;> omega
        rw [nb]
        exact ⟨⟨fun _ => (y4 _ nlt).1, fun _ => c15 c⟩, ⟨fun _ => (y4 _ nlt).2, fun _ => c16 c⟩⟩
      · have := z9 b hb
        exact ⟨y5 b this.1, y6 b this.2⟩
    · have := hSR.ok
      unfold okT at this ⊢
      rw [Y36]
      exact this
    · refine ⟨fun c a b _ j hj => ?_, fun r hr hu hm _ j hj => ?_, fun r hr k => absurd (c16 _) k, fun c _ => c16 c, fun r hr k => ?_⟩
      · rw [e11, g100 _ (by omega), nw1 c j a b hj]
      · unfold us at hu
        unfold nd at hm
        rw [Y36] at hu hm
        rw [e11, g100 _ (by omega), nw2 r j hr hu hm hj]
      · rw [yq 7 (by decide) (by decide)] at hr
        rw [y7 48 (by decide) (by decide) (by decide) (by decide) (by decide)] at k
        unfold nd at gg5 ⊢
        rw [Y36]
        exact gg5 r hr k
  · exact hΦ w A _ Y36 (yq 7 (by decide) (by decide)) hT
  · intro k i k1 k2
    rw [y28, yq 35 (by decide) (by decide)] at k1
    rw [wb, cur_sD sd]
    by_cases c : k = A 35 28 - A 35 35
    · subst c
      rw [p3] at k2
      have : whB A J (A 35 28 - A 35 35) i = 34 + (A 35 33 + i) % A 35 6 := by unfold whB; rw [p2]
      rw [this, p1]
      exact p7 i k2
    · exact hLc k i (by omega) k2
  · unfold HDc
    rw [cur_sD sd, yq 31 (by decide) (by decide)]
    exact hHc
  · intro q hq
    rw [g100 q hq, y28, yq 35 (by decide) (by decide)]
  · rw [yq 18 (by decide) (by decide)]
    exact hon
  · rw [y28, yq 35 (by decide) (by decide), hnr]
    omega
  · rw [y7 46 (by decide) (by decide) (by decide) (by decide) (by decide)]
    exact h46
end PEO
