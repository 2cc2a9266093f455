/-! ===== PURE: a block put into a place, or taken from it: the tree's form stays ===== -/
/-- memory with a place, a block's mark and its serial set -/
def ptB (A B : tS) (n s x r0 u v : Nat) : Prop := ∀ j, B 36 j = if j = lcA A n s then x else if j = 6080 + r0 * 274 then u else if j = 6080 + r0 * 274 + 1 then v else A 36 j
def upW2 (w : Nat → Nat × Nat) (r : Nat) (p : Nat × Nat) : Nat → Nat × Nat := fun q => if q = r then p else w q
section TIP
variable {bi : Nat → Nat} {w : Nat → Nat × Nat} {C A B : tS} {W : Nat → Nat} {n s x r0 u v : Nat}
theorem lc_r (h : rs s = true) : lcA A n s = n * 95 + ro s := by unfold lcA; rw [if_pos h]
theorem lc_n (h : rs s = false) : lcA A n s = 6080 + (slo A n (pa s) - 1) * 274 + (2 + kx s) := by unfold lcA; rw [h]; rfl
theorem lc_f (hn : n < 64) (hv : vs s) : (lcA A n s < 6080 ∧ 85 ≤ lcA A n s - n * 95 ∧ n * 95 ≤ lcA A n s ∧ lcA A n s < n * 95 + 95) ∨ ∃ y k, lcA A n s = 6080 + y * 274 + (2 + k) ∧ k < 32 := by
  cases h : rs s with
  | true =>
    have := ro_lt h
    rw [lc_r h]
    exact Or.inl (by omega)
  | false =>
    have := (slo_n (A := A) (n := n) hv h).2.2.2.1
    rw [lc_n h]
    exact Or.inr ⟨_, _, rfl, this⟩
theorem pf_nd (hB : ptB A B n s x r0 u v) {n' i : Nat} (h1 : n' < 64) (h2 : i < 95) : nd B n' i = if n' * 95 + i = lcA A n s then x else nd A n' i := by
  unfold nd
  rw [hB]
  by_cases c : n' * 95 + i = lcA A n s
  · rw [if_pos c, if_pos c]
  · rw [if_neg c, if_neg c, if_neg (by omega), if_neg (by omega)]
theorem pf_lo (hB : ptB A B n s x r0 u v) (hn : n < 64) (hv : vs s) {n' i : Nat} (h1 : n' < 64) (h2 : i < 85) : nd B n' i = nd A n' i := by
  rw [pf_nd hB h1 (by omega), if_neg]
  rcases lc_f (A := A) hn hv with h | ⟨y, k, h, -⟩
  · omega
  · omega
theorem pf_pt (hB : ptB A B n s x r0 u v) {r k : Nat} (h2 : k < 32) : pt B r k = if 6080 + r * 274 + (2 + k) = lcA A n s then x else pt A r k := by
  unfold pt
  rw [hB]
  by_cases c : 6080 + r * 274 + (2 + k) = lcA A n s
  · rw [if_pos c, if_pos c]
  · rw [if_neg c, if_neg c, if_neg (by omega), if_neg (by omega)]
theorem pf_eZ (hB : ptB A B n s x r0 u v) (hn : n < 64) (hv : vs s) {r k i : Nat} (h1 : k < 8) (h2 : i < 30) : eZ B r k i = eZ A r k i := by
  unfold eZ
  obtain ⟨o, ho, o1, o2⟩ : ∃ o, 34 + k * 30 + i = o ∧ 34 ≤ o ∧ o < 274 := ⟨_, rfl, by omega, by omega⟩
  rw [ho]
  have q1 : ¬ 6080 + r * 274 + o = lcA A n s := by
    rcases lc_f (A := A) hn hv with h | ⟨y, k2, h, hk⟩
    · omega
    · omega
  have q2 : ¬ 6080 + r * 274 + o = 6080 + r0 * 274 := by omega
  have q3 : ¬ 6080 + r * 274 + o = 6080 + r0 * 274 + 1 := by omega
  rw [hB, if_neg q1, if_neg q2, if_neg q3]
theorem pf_us (hB : ptB A B n s x r0 u v) (hn : n < 64) (hv : vs s) {r : Nat} : B 36 (6080 + r * 274) = if r = r0 then u else A 36 (6080 + r * 274) := by
  rw [hB, if_neg]
  · by_cases c : r = r0
    · rw [if_pos c, if_pos (by rw [c])]
    · rw [if_neg c, if_neg (by omega), if_neg (by omega)]
  · rcases lc_f (A := A) hn hv with h | ⟨y, k, h, hk⟩
    · omega
    · omega
theorem pf_se (hB : ptB A B n s x r0 u v) (hn : n < 64) (hv : vs s) {r : Nat} : se B r = if r = r0 then v else se A r := by
  unfold se
  rw [hB, if_neg]
  · by_cases c : r = r0
    · rw [if_pos c, if_neg (by omega), if_pos (by rw [c])]
    · rw [if_neg c, if_neg (by omega), if_neg (by omega)]
  · rcases lc_f (A := A) hn hv with h | ⟨y, k, h, hk⟩
    · omega
    · omega
/-- the table that a place lies in -/
theorem pf_tb (hT : TI w A) (hn : n < 64) (hv : vs s) (hp : rs s = false → slo A n (pa s) ≠ 0) {r k : Nat} (hk : k < 32) (h : 6080 + r * 274 + (2 + k) = lcA A n s) : rs s = false ∧ r < 2000 ∧ us A r ∧ w r = (n, pa s) ∧ 2000 ≤ pa s ∧ k = kx s := by
  cases c : rs s with
  | true =>
    rw [lc_r c] at h
    have := ro_lt c
    omega
  | false =>
    rw [lc_n c] at h
    obtain ⟨f1, f2, f3, f4, f5⟩ := slo_n (A := A) (n := n) hv c
    have hp := hp c
    obtain ⟨y, hy⟩ : ∃ y, slo A n (pa s) = y + 1 := ⟨slo A n (pa s) - 1, by omega⟩
    have u := hT.2.1 n (pa s) y hn f2 hy
    have e : y = r := by omega
    rw [e] at u
    exact ⟨rfl, u.1, u.2.1, u.2.2, f3, by omega⟩
/-- a new block in an empty place -/
theorem TI_att (hT : TI w A) (hB : ptB A B n s (r0 + 1) r0 1 v) (h7 : B 35 7 = A 35 7) (hn : n < 64) (hk : nd A n 0 = 1 ∨ nd A n 0 = 2) (hv : vs s) (hp : rs s = false → slo A n (pa s) ≠ 0) (h0 : slo A n s = 0) (hr : r0 < A 35 7) (hr2 : r0 < 2000) (hu : ¬ us A r0) :
    TI (upW2 w r0 (n, s)) B ∧ ∀ n' s', n' < 64 → vs s' → slo B n' s' = if n' = n ∧ s' = s then r0 + 1 else slo A n' s' := by
  obtain ⟨t1, t2, t3, t4, t5⟩ := hT
  have hT : TI w A := ⟨t1, t2, t3, t4, t5⟩
  have z0 : ∀ k, k < 32 → pt A r0 k = 0 := t4 r0 hr2 (fun q => absurd q hu)
  have S := slo_put (B := B) (x := r0 + 1) (r0 := r0) hT hn hv hp (fun q => absurd h0 q) (Or.inr ⟨rfl, hu⟩) hr2 z0 (fun n' i a b c => pf_nd hB a c) (fun r k _ b => pf_pt hB b)
  have U : ∀ r, us B r ↔ r = r0 ∨ us A r := by
    intro r
    unfold us
    rw [pf_us hB hn hv]
    by_cases c : r = r0
    · rw [if_pos c]
      exact ⟨fun _ => Or.inl c, fun _ => by decide⟩
    · rw [if_neg c]
      exact ⟨Or.inr, fun q => q.resolve_left c⟩
  have ws : upW2 w r0 (n, s) r0 = (n, s) := by unfold upW2; rw [if_pos rfl]
  have wo : ∀ r, r ≠ r0 → upW2 w r0 (n, s) r = w r := fun r q => by unfold upW2; rw [if_neg q]
  refine ⟨⟨fun r h1 h2 => ?_, fun n' s' r a b c => ?_, fun n' a b c i hi => ?_, fun r a b k hk2 => ?_, fun r a b k hk2 => ?_⟩, S⟩
  · by_cases c : r = r0
    · subst c
      rw [ws, h7]
      refine ⟨hr, hn, ?_, hv, ?_⟩
      · show nd B n 0 = 1 ∨ nd B n 0 = 2
        rw [pf_lo hB hn hv hn (by omega)]
        exact hk
      · rw [S n s hn hv, if_pos ⟨rfl, rfl⟩]
    · have h3 := ((U r).mp h2).resolve_left c
      obtain ⟨q1, q2, q3, q4, q5⟩ := t1 r h1 h3
      rw [wo r c, h7, pf_lo hB hn hv q2 (by omega), S _ _ q2 q4, if_neg]
      · exact ⟨q1, q2, q3, q4, q5⟩
      · intro d
        rw [d.1, d.2, h0] at q5
        omega
  · rw [S n' s' a b] at c
    by_cases d : n' = n ∧ s' = s
    · rw [if_pos d] at c
      have e : r = r0 := by omega
      subst e
      exact ⟨hr2, (U r).mpr (Or.inl rfl), by rw [ws, d.1, d.2]⟩
    · rw [if_neg d] at c
      obtain ⟨q1, q2, q3⟩ := t2 n' s' r a b c
      have e : r ≠ r0 := fun e => hu (e ▸ q2)
      exact ⟨q1, (U r).mpr (Or.inr q2), by rw [wo r e]; exact q3⟩
  · rw [pf_lo hB hn hv a (by omega)] at b c
    have e : n' ≠ n := fun e => by subst e; omega
    rw [pf_nd hB a (by omega), if_neg]
    · exact t3 n' a b c i hi
    · rcases lc_f (A := A) hn hv with h | ⟨y, k, h, hk⟩
      · omega
      · omega
  · have nb : ¬ 6080 + r * 274 + (2 + k) = lcA A n s := by
      intro q
      obtain ⟨g1, g2, g3, g4, g5, -⟩ := pf_tb hT hn hv hp hk2 q
      have e : r ≠ r0 := fun e => hu (e ▸ g3)
      have := b ((U r).mpr (Or.inr g3))
      rw [wo r e, g4] at this
      have : pa s < 2000 := this
      omega
    rw [pf_pt hB hk2, if_neg nb]
    by_cases e : r = r0
    · rw [e]
      exact z0 k hk2
    · exact t4 r a (fun q => by have := b ((U r).mpr (Or.inr q)); rwa [wo r e] at this) k hk2
  · rw [pf_eZ hB hn hv hk2 (by omega)]
    by_cases e : r = r0
    · rw [e]
      exact t5 r0 hr2 (fun q => absurd q hu) k hk2
    · refine t5 r a (fun q q2 => ?_) k hk2
      have := b ((U r).mpr (Or.inr q))
      rw [wo r e, pf_lo hB hn hv (t1 r a q).2.1 (by omega)] at this
      exact this q2
/-- a block taken from its place -/
theorem TI_det (hT : TI w A) (hB : ptB A B n s 0 r0 0 (se A r0)) (h7 : B 35 7 = A 35 7) (hn : n < 64) (hv : vs s) (h0 : slo A n s = r0 + 1) (hz : ∀ k, k < 32 → pt A r0 k = 0) (he : ∀ k, k < 8 → eZ A r0 k 0 = 64) :
    TI w B ∧ ∀ n' s', n' < 64 → vs s' → slo B n' s' = if n' = n ∧ s' = s then 0 else slo A n' s' := by
  obtain ⟨t1, t2, t3, t4, t5⟩ := hT
  have hT : TI w A := ⟨t1, t2, t3, t4, t5⟩
  obtain ⟨hr2, hu, hw⟩ := t2 n s r0 hn hv h0
  have hp : rs s = false → slo A n (pa s) ≠ 0 := by
    intro c q
    have := (slo_n (A := A) (n := n) hv c).1
    rw [if_pos q] at this
    omega
  have S := slo_put (B := B) (x := 0) (r0 := r0) hT hn hv hp (fun _ => ⟨h0, hu⟩) (Or.inl rfl) hr2 hz (fun n' i a b c => pf_nd hB a c) (fun r k _ b => pf_pt hB b)
  have U : ∀ r, us B r ↔ r ≠ r0 ∧ us A r := by
    intro r
    unfold us
    rw [pf_us hB hn hv]
    by_cases c : r = r0
    · rw [if_pos c]
      exact ⟨fun q => absurd rfl q, fun q => absurd c q.1⟩
    · rw [if_neg c]
      exact ⟨fun q => ⟨c, q⟩, fun q => q.2⟩
  refine ⟨⟨fun r h1 h2 => ?_, fun n' s' r a b c => ?_, fun n' a b c i hi => ?_, fun r a b k hk2 => ?_, fun r a b k hk2 => ?_⟩, S⟩
  · obtain ⟨c, h3⟩ := (U r).mp h2
    obtain ⟨q1, q2, q3, q4, q5⟩ := t1 r h1 h3
    rw [h7, pf_lo hB hn hv q2 (by omega), S _ _ q2 q4, if_neg]
    · exact ⟨q1, q2, q3, q4, q5⟩
    · intro d
      rw [d.1, d.2, h0] at q5
      omega
  · rw [S n' s' a b] at c
    by_cases d : n' = n ∧ s' = s
    · rw [if_pos d] at c
      omega
    · rw [if_neg d] at c
      obtain ⟨q1, q2, q3⟩ := t2 n' s' r a b c
      refine ⟨q1, (U r).mpr ⟨fun e => d ?_, q2⟩, q3⟩
      rw [e, hw] at q3
      exact ⟨(congrArg Prod.fst q3).symm, (congrArg Prod.snd q3).symm⟩
  · rw [pf_lo hB hn hv a (by omega)] at b c
    rw [pf_nd hB a (by omega)]
    split
    · rfl
    · exact t3 n' a b c i hi
  · rw [pf_pt hB hk2]
    split
    · rfl
    · by_cases e : r = r0
      · rw [e]
        exact hz k hk2
      · exact t4 r a (fun q => b ((U r).mpr ⟨e, q⟩)) k hk2
  · rw [pf_eZ hB hn hv hk2 (by omega)]
    by_cases e : r = r0
    · rw [e]
      exact he k hk2
    · refine t5 r a (fun q q2 => ?_) k hk2
      have := b ((U r).mpr ⟨e, q⟩)
      rw [pf_lo hB hn hv (t1 r a q).2.1 (by omega)] at this
      exact this q2
end TIP
