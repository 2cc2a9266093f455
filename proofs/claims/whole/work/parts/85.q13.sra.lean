/-! ===== PURE: a block got and put into a place, in both: SR stays ===== -/
section SRB
variable {bi : Nat → Nat} {w : Nat → Nat × Nat} {C A B : tS} {W V : Nat → Nat} {n s : Nat} {me : Bool}
theorem rk_by {X : tS} (h1 : ci X) (h2 : sk X) (h3 : X 10 16 = C 10 16) (h : rk3 C) : rk3 X := ⟨h1, h2, by rw [h3]; exact h.2.2⟩
theorem okT_lc (h : okT A) (hn : n < 64) (hv : vs s) {x : Nat} (hx : x < 2001) : okT (up2 A 36 (lcA A n s) x) := by
  refine okT_up h ?_
  cases c : rs s with
  | true =>
    have := ro_lt c
    rw [lc_r c]
    unfold bT
    rw [if_pos (by omega), show (n * 95 + ro s) % 95 = ro s by omega]
    unfold bN
    rw [if_neg (by omega), if_neg (by omega), if_neg (by omega), if_neg (by omega), if_neg (by omega), if_neg (by omega)]
    exact hx
  | false =>
    have := (slo_n (A := A) (n := n) hv c).2.2.2.1
    rw [lc_n c]
    unfold bT
    rw [if_neg (by omega), show (6080 + (slo A n (pa s) - 1) * 274 + (2 + kx s) - 6080) % 274 = 2 + kx s by omega]
    unfold bR
    rw [if_neg (by omega), if_neg (by omega), if_pos (by omega)]
    exact hx
theorem okT_get (h : okT A) {r : Nat} (h34 : A 35 34 + 1 < 1000000) : okT (getA A r me) := by
  intro j
  rw [gA_rows.1 j]
  by_cases c : j = 6080 + r * 274
  · rw [if_pos c, c]
    unfold bT
    rw [if_neg (by omega), show (6080 + r * 274 - 6080) % 274 = 0 by omega]
    decide
  · rw [if_neg c]
    by_cases d : j = 6080 + r * 274 + 1
    · rw [if_pos d, d]
      unfold bT
      rw [if_neg (by omega), show (6080 + r * 274 + 1 - 6080) % 274 = 1 by omega]
      show A 35 34 + 1 < 1048576
      omega
    · rw [if_neg d]
      exact h j
/-- in which cell a place's word lies -/
theorem lw_c (hv : vs s) : ∃ y, y < 32 ∧ lcW A n s = tcC A n s * 32 + y := by
  unfold lcW tcC
  cases c : rs s with
  | true =>
    rw [if_pos rfl, if_pos rfl]
    have := ro_lt c
    exact ⟨n % 2 * 16 + (ro s - 84), by omega, by omega⟩
  | false =>
    rw [if_neg (by decide), if_neg (by decide)]
    exact ⟨kx s, (slo_n (A := A) (n := n) hv c).2.2.2.1, rfl⟩
theorem SR_at (h : SR bi w C A) (hme : (2000 ≤ s ∨ nd A n 0 = 2) → me = true) (hn : n < 64) (hkd : nd A n 0 = 1 ∨ nd A n 0 = 2) (hv : vs s) (hp : rs s = false → slo A n (pa s) ≠ 0) (h0 : slo A n s = 0) (hf : 0 < fre A) (h34 : A 35 34 + 1 < 1000000) :
    SR (upN bi (A 35 34 + 1) (C 10 15 + 1)) (upW2 w (ff A) (n, s)) (atC C A n s me) (atA A n s me) ∧ (∀ n' s', n' < 64 → vs s' → slo (atA A n s me) n' s' = if n' = n ∧ s' = s then ff A + 1 else slo A n' s') ∧
    (∀ n' i, n' < 64 → i < 85 → nd (atA A n s me) n' i = nd A n' i) ∧ ff A < A 35 7 := by
  have hZ := h.zm
  have hT := h.ti
  have hO := h.ok
  have hb := h.bj
  obtain ⟨⟨z1, z2, z3, z4, z5⟩, z6, z7, z8, z9, z10, z11, z12, z13, z14⟩ := hZ
  have hZ := h.zm
  have hci := h.rk.1
  have hsk := h.rk.2.1
  have h9 : 0 < C 10 9 := by rw [fre_c hsk hZ]; exact hf
  have hF := ff_is hci hsk h9
  have ec := ff_c hZ
  rw [ec] at hF
  have g1 := gt_rows (C := C) (n := n) (me := me) ⟨hF.1, hF.2.1⟩ (by omega)
  have a1 := gA_rows (A := A) (me := me) (r := ff A)
  have frr : A 36 (6080 + ff A * 274) = 0 ∧ A 49 (ff A) = 0 := by
    have q := sr_is (frA A) (A 35 7) 0 (by have := sr_cn (frA A) _ _ hf; exact this)
    have q : frA A (ff A) = true := q
    unfold frA at q
    simp at q
    exact q
  have rlt : ff A < A 35 7 := by
    have := sr_cn (frA A) _ _ hf
    unfold ff
    omega
  have hr2 : ff A < 2000 := by omega
  have hu : ¬ us A (ff A) := fun q => q frr.1
  -- the table of the place is used
  have tbu : rs s = false → ∃ y, slo A n (pa s) = y + 1 ∧ y < A 35 7 ∧ y < 2000 ∧ us A y := by
    intro c
    obtain ⟨f1, f2, f3, f4, f5⟩ := slo_n (A := A) (n := n) hv c
    have hp := hp c
    obtain ⟨y, hy⟩ : ∃ y, slo A n (pa s) = y + 1 := ⟨slo A n (pa s) - 1, by omega⟩
    have u := hT.2.1 n (pa s) y hn f2 hy
    exact ⟨y, hy, (hT.1 y u.1 u.2.1).1, u.1, u.2.1⟩
  have tc : 1 ≤ tcC A n s ∧ tcC A n s < 34 + A 35 7 := by
    unfold tcC
    cases c : rs s with
    | true => rw [if_pos rfl]; omega
    | false =>
      obtain ⟨y, q1, q2, -, -⟩ := tbu c
      rw [if_neg (by decide), q1]
      omega
  -- the reference's memory
  have hB : ptB A (atA A n s me) n s (ff A + 1) (ff A) 1 (A 35 34 + 1) := by
    intro j
    unfold atA
    rw [up2_o (by decide)]
    by_cases c : j = lcA A n s
    · rw [c, up2_s, if_pos rfl]
    · rw [up2_j c, if_neg c, a1.1 j]
  have Bo : ∀ p, p ≠ 35 → p ≠ 36 → p ≠ 47 → p ≠ 48 → p ≠ 51 → atA A n s me p = A p := fun p p0 p1 p2 p3 p4 => by
    unfold atA
    rw [up2_rown p4, up2_rown p1, a1.2.2.2.2.2 p p0 p1 p2 p3 p4]
  have B35 : ∀ q, atA A n s me 35 q = if q = 34 then A 35 34 + 1 else A 35 q := fun q => by
    unfold atA
    rw [up2_o (by decide), up2_o (by decide), a1.2.2.2.2.1]
  have B47 : ∀ q, atA A n s me 47 q = if 256 * ff A ≤ q ∧ q < 256 * ff A + 256 then 0 else A 47 q := fun q => by
    unfold atA
    rw [up2_o (by decide), up2_o (by decide), a1.2.1]
  have B48 : ∀ q, atA A n s me 48 q = if q = ff A then 0 else A 48 q := fun q => by
    unfold atA
    rw [up2_o (by decide), up2_o (by decide), a1.2.2.1]
  have B51 : ∀ b, atA A n s me 51 b = 0 ↔ b ≠ nbA A (tcC A n s) ∧ b ≠ 1 ∧ (me = true → b ≠ 34 + A 35 6 + ff A) ∧ A 51 b = 0 := fun b => by
    unfold atA
    by_cases c : b = nbA A (tcC A n s)
    · rw [c, up2_s]
      exact ⟨fun q => by omega, fun q => absurd rfl q.1⟩
    · rw [up2_j c, up2_o (by decide), a1.2.2.2.1]
      exact ⟨fun q => ⟨c, q⟩, fun q => q.2⟩
  -- the class's
  have C7 : gtC C n me 10 7 = C 10 7 := gt_10.2.2
  have egt : gtC C n me = obC C (34 + ff A) n me := by unfold gtC; rw [ec]
  have C15 : ∀ k, atC C A n s me 15 k = 0 ↔ k ≠ tcC A n s ∧ k ≠ 1 ∧ (me = true → k ≠ 34 + ff A) ∧ C 15 k = 0 := fun k => by
    unfold atC
    rw [tou_15 (by omega) (by rw [up2_o (by decide), C7, z1]; omega), up2_o (by decide), egt, g1.2.2.2.2.1]
  have Co : ∀ p, p ≠ 10 → p ≠ 11 → p ≠ 15 → atC C A n s me p = obC C (34 + ff A) n me p := fun p p0 p1 p2 => by
    unfold atC
    rw [tou_o p0 p2, up2_rown p1, egt]
  have C10 : ∀ q, q ≠ 11 → atC C A n s me 10 q = gtC C n me 10 q := fun q hq => by
    unfold atC
    rw [tou_10 hq, up2_o (by decide)]
  have gp : gpV C = upN bi (A 35 34 + 1) (C 10 15 + 1) (A 35 34 + 1) * 65536 + (34 + ff A) := by
    unfold gpV upN
    rw [if_pos rfl, ec]
  have hV : pW A (C 11) (atC C A n s me 11) n s (upN bi (A 35 34 + 1) (C 10 15 + 1) (A 35 34 + 1) * 65536 + (34 + ff A)) (ff A) 1 true := by
    intro q
    rw [← gp]
    unfold atC
    rw [tou_o (by decide) (by decide)]
    by_cases c : q = lcW A n s
    · rw [c, up2_s, if_pos rfl]
    · rw [up2_j c, if_neg c, egt, g1.1 q, show 34 + ff A - 34 = ff A by omega]
      by_cases d : (34 + ff A) * 32 ≤ q ∧ q < (34 + ff A) * 32 + 32
      · rw [if_pos d, if_pos ⟨rfl, d⟩]
      · rw [if_neg d, if_neg (show ¬ (true = true ∧ (34 + ff A) * 32 ≤ q ∧ q < (34 + ff A) * 32 + 32) from fun y => d y.2)]
  have hbi : ∀ y, y ≠ A 35 34 + 1 → upN bi (A 35 34 + 1) (C 10 15 + 1) y = bi y := fun y hy => by unfold upN; rw [if_neg hy]
  have hne : ∀ r, r < 2000 → us A r → se A r ≠ A 35 34 + 1 := fun r hr hur e => by
    have := hb.2.2.2 r hr hur
    rw [e] at this
    exact this (hb.2.1 _ (by omega))
  obtain ⟨T1, T2⟩ := TI_att hT hB (by rw [B35, if_neg (by decide)]) hn hkd hv hp h0 rlt hr2 hu
  have U : ∀ r, us (atA A n s me) r ↔ r = ff A ∨ us A r := by
    intro r
    unfold us
    rw [pf_us hB hn hv]
    by_cases c : r = ff A
    · rw [if_pos c]
      exact ⟨fun _ => Or.inl c, fun _ => by decide⟩
    · rw [if_neg c]
      exact ⟨Or.inr, fun q => q.resolve_left c⟩
  have U0 : ∀ r, atA A n s me 36 (6080 + r * 274) = if r = ff A then 1 else A 36 (6080 + r * 274) := fun r => pf_us hB hn hv
  have ws : upW2 w (ff A) (n, s) (ff A) = (n, s) := by unfold upW2; rw [if_pos rfl]
  have wo : ∀ r, r ≠ ff A → upW2 w (ff A) (n, s) r = w r := fun r q => by unfold upW2; rw [if_neg q]
  have i6 : atA A n s me 35 6 = A 35 6 := by rw [B35, if_neg (by decide)]
  have nbB : ∀ c, nbA (atA A n s me) c = nbA A c := fun c => by unfold nbA; rw [i6]
  have S : ∀ r, se (atA A n s me) r = if r = ff A then A 35 34 + 1 else se A r := fun r => pf_se hB hn hv
  refine ⟨⟨?_, T1, MR_att h.mr hT hO hB hn hkd hv hp hr2 hu hbi hne hV, FB_att h.fb hT hB hn hv hp hr2 hu hV B47, ?_, ?_, ?_, ?_⟩, T2, fun n' i a b => pf_lo hB hn hv a b, rlt⟩
  · refine rk_by ?_ ?_ ?_ h.rk
    · unfold atC
      exact ci_tou (ci_11 (by rw [egt]; exact ci_ob hci))
    · unfold atC
      exact sk_tou (sk_11 (by rw [egt]; exact sk_ob hsk hF))
    · rw [C10 16 (by decide), egt, ob_10 (by decide), ob1_10 (by decide) (by decide) (by decide)]
  · have e15 : atC C A n s me 10 15 = C 10 15 + 1 := by rw [C10 15 (by decide), gt_10.2.1]
    refine ⟨fun x => ?_, fun x hx => ?_, fun x y h1 h2 => ?_, fun r hr hur => ?_⟩
    · rw [e15, B35, if_pos rfl]
      refine ⟨?_, Nat.succ_le_succ (hb.1 0).2⟩
      unfold upN
      split
      · exact Nat.le_refl _
      · have := hb.1 x
        omega
    · rw [B35, if_pos rfl] at hx
      unfold upN
      rw [if_neg (by omega)]
      exact hb.2.1 x (by omega)
    · unfold upN at h1 h2
      by_cases c : x = A 35 34 + 1
      · by_cases d : y = A 35 34 + 1
        · omega
        · rw [if_pos c, if_neg d] at h2
          have := hb.1 y
          omega
      · by_cases d : y = A 35 34 + 1
        · rw [if_neg c, if_pos d] at h2
          have := hb.1 x
          omega
        · rw [if_neg c] at h1 h2
          rw [if_neg d] at h2
          exact hb.2.2.1 x y h1 h2
    · rw [S]
      unfold upN
      by_cases c : r = ff A
      · rw [if_pos c, if_pos rfl]
        omega
      · rw [if_neg c]
        have hua := ((U r).mp hur).resolve_left c
        rw [if_neg (hne r hr hua)]
        exact hb.2.2.2 r hr hua
  · have i7 : atA A n s me 35 7 = A 35 7 := by rw [B35, if_neg (by decide)]
    have i28 : atA A n s me 35 28 = A 35 28 := by rw [B35, if_neg (by decide)]
    have c7 : atC C A n s me 10 7 = C 10 7 := by rw [C10 7 (by decide), C7]
    unfold ZM
    rw [i7, i6, i28, c7, C10 8 (by decide), C10 16 (by decide), egt, ob_10 (by decide), ob_10 (by decide), ob1_10 (by decide) (by decide) (by decide), ob1_10 (by decide) (by decide) (by decide)]
    refine ⟨⟨z1, z2, z3, z4, z5⟩, fun r hr => ?_, fun r hr hur => ?_, fun c k1 k2 => ?_, fun b hb => ?_, fun r hr => ?_, fun c hc => ?_, fun n' hn' => ?_, fun k hk => ?_, fun r hr q => ?_⟩
    · rw [Co 12 (by decide) (by decide) (by decide), g1.2.1, U0, Bo 49 (by decide) (by decide) (by decide) (by decide) (by decide)]
      by_cases c : r = ff A
      · rw [if_pos (by omega), if_pos c, if_pos (by decide)]
      · rw [if_neg (by omega), if_neg c]
        exact z6 r hr
    · rw [Co 13 (by decide) (by decide) (by decide), Co 14 (by decide) (by decide) (by decide), g1.2.2.1, g1.2.2.2.1, S, Bo 49 (by decide) (by decide) (by decide) (by decide) (by decide)]
      by_cases c : r = ff A
      · rw [if_pos (by omega), if_pos c, if_pos (by omega), c, ws]
        exact ⟨by unfold upN; rw [if_pos rfl], rfl, frr.2⟩
      · have hua := ((U r).mp hur).resolve_left c
        rw [if_neg (by omega), if_neg c, if_neg (by omega), wo r c, hbi _ (hne r (by omega) hua)]
        exact z7 r hr hua
    · obtain ⟨x1, x2⟩ := z8 c k1 k2
      rw [nbB, C15, B51, Co 16 (by decide) (by decide) (by decide), g1.2.2.2.2.2 16 (by decide) (by decide) (by decide) (by decide) (by decide) (by decide), Bo 52 (by decide) (by decide) (by decide) (by decide) (by decide)]
      refine ⟨?_, x2⟩
      have inj : ∀ c', 1 ≤ c' → (nbA A c = nbA A c' ↔ c = c') := fun c' hc' => by
        unfold nbA
        constructor
        · intro q
          split at q <;> split at q <;> omega
        · intro q
          rw [q]
      have n1 : nbA A c = 1 ↔ c = 1 := by
        have := inj 1 (by omega)
        rwa [show nbA A 1 = 1 from rfl] at this
      have nf : nbA A c = 34 + A 35 6 + ff A ↔ c = 34 + ff A := by
        have := inj (34 + ff A) (by omega)
        rwa [show nbA A (34 + ff A) = 34 + A 35 6 + ff A by unfold nbA; rw [if_neg (by omega)]; omega] at this
      rw [← x1]
      constructor
      · intro q
        exact ⟨fun e => q.1 ((inj _ tc.1).mp e), fun e => q.2.1 (n1.mp e), fun m e => q.2.2.1 m (nf.mp e), q.2.2.2⟩
      · intro q
        exact ⟨fun e => q.1 ((inj _ tc.1).mpr e), fun e => q.2.1 (n1.mpr e), fun m e => q.2.2.1 m (nf.mpr e), q.2.2.2⟩
    · obtain ⟨x1, x2⟩ := z9 b hb
      rw [B51, Bo 52 (by decide) (by decide) (by decide) (by decide) (by decide)]
      refine ⟨⟨?_, by omega, fun _ => by omega, x1⟩, x2⟩
      unfold nbA
      split <;> omega
    · rw [Co 17 (by decide) (by decide) (by decide), g1.2.2.2.2.2 17 (by decide) (by decide) (by decide) (by decide) (by decide) (by decide), B48]
      by_cases c : r = ff A
      · rw [if_pos c, z10 r hr]
        have : A 48 r = 0 := Classical.byContradiction (fun q => hu (c ▸ z14 r hr q))
        exact ⟨fun _ => rfl, fun _ => this⟩
      · rw [if_neg c]
        exact z10 r hr
    · rw [Co 17 (by decide) (by decide) (by decide), g1.2.2.2.2.2 17 (by decide) (by decide) (by decide) (by decide) (by decide) (by decide)]
      exact z11 c hc
    · rw [Co 19 (by decide) (by decide) (by decide), g1.2.2.2.2.2 19 (by decide) (by decide) (by decide) (by decide) (by decide) (by decide), Bo 50 (by decide) (by decide) (by decide) (by decide) (by decide)]
      exact z12 n' hn'
    · rw [Co 32 (by decide) (by decide) (by decide), g1.2.2.2.2.2 32 (by decide) (by decide) (by decide) (by decide) (by decide) (by decide), Bo 71 (by decide) (by decide) (by decide) (by decide) (by decide)]
      exact z13 k hk
    · rw [B48] at q
      by_cases c : r = ff A
      · rw [if_pos c] at q
        exact absurd rfl q
      · rw [if_neg c] at q
        exact (U r).mpr (Or.inr (z14 r hr q))
  · unfold atA
    have lcg : lcA (getA A (ff A) me) n s = lcA A n s ∨ True := Or.inr trivial
    refine okT_oth ?_ (by decide)
    intro j
    by_cases c : j = lcA A n s
    · have := okT_lc hO hn hv (x := ff A + 1) (by omega) j
      rw [c, up2_s] at this
      rw [c, up2_s]
      exact this
    · rw [up2_j c]
      exact okT_get hO h34 j
  · obtain ⟨q1, q2, q3, q4, q5⟩ := h.gh
    obtain ⟨y, y1, y2⟩ := lw_c (A := A) (n := n) hv
    have c100 : atC C A n s me 100 = C 100 := by rw [Co 100 (by decide) (by decide) (by decide), g1.2.2.2.2.2 100 (by decide) (by decide) (by decide) (by decide) (by decide) (by decide)]
    have c16 : atC C A n s me 16 = C 16 := by rw [Co 16 (by decide) (by decide) (by decide), g1.2.2.2.2.2 16 (by decide) (by decide) (by decide) (by decide) (by decide) (by decide)]
    have ws2 : ∀ c j, c ≠ tcC A n s → c ≠ 1 → c ≠ 34 + ff A → j < 32 → atC C A n s me 11 (c * 32 + j) = C 11 (c * 32 + j) := fun c j k1 k2 k3 hj => by
      rw [hV, if_neg (by rw [y2]; omega), if_neg (fun q => by omega), if_neg (by omega)]
    refine ⟨fun c k1 k2 k3 j hj => ?_, fun r hr hur hm k3 j hj => ?_, fun r hr k => ?_, fun c hc => by rw [c16]; exact q4 c hc, fun r hr k => ?_⟩
    · obtain ⟨x1, x2, x3, x4⟩ := (C15 c).mp k3
      rw [c100, ws2 c j x1 x2 (by omega) hj]
      exact q1 c k1 k2 x4 j hj
    · obtain ⟨x1, x2, x3, x4⟩ := (C15 (34 + r)).mp k3
      by_cases e : r = ff A
      · exfalso
        rw [e, ws, pf_lo hB hn hv hn (by omega)] at hm
        exact x3 (hme hm) (by rw [e])
      · have hua := ((U r).mp hur).resolve_left e
        rw [wo r e, pf_lo hB hn hv (hT.1 r hr hua).2.1 (by omega)] at hm
        rw [c100, ws2 _ j x1 x2 (by omega) hj]
        exact q2 r hr hua hm x4 j hj
    · rw [B35, if_neg (by decide)] at hr
      rw [c16] at k
      rw [Bo 49 (by decide) (by decide) (by decide) (by decide) (by decide)]
      exact q3 r hr k
    · rw [B35, if_neg (by decide)] at hr
      rw [B48] at k
      by_cases e : r = ff A
      · rw [if_pos e] at k
        exact absurd rfl k
      · rw [if_neg e] at k
        have hua := z14 r hr k
        rw [wo r e, pf_lo hB hn hv (hT.1 r (by omega) hua).2.1 (by omega)]
        exact q5 r hr k
end SRB
