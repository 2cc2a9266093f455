/-! ===== PURE: how far the transactions are whole, in both ===== -/
section LST
variable {Φ : tPh} {b0 fu : Nat} {σ τ : tM} {bi sp : Nat → Nat} {w : Nat → Nat × Nat} {C C' X : tS} {D D' D'' : tD} {A B : tS} {J J' : tJ} {K n m k r b id wh e o un fr : Nat}
theorem sr_cut {p : Nat → Bool} : ∀ m k m', p (k + m) = true → 0 < m' → sr p k (m + m') = sr p k m
  | 0, k, m', h, h' => by
    obtain ⟨q, rfl⟩ : ∃ q, m' = q + 1 := ⟨m' - 1, by omega⟩
    rw [Nat.add_zero] at h
    show sr p k (0 + (q + 1)) = k
    rw [Nat.zero_add]
    show (if p k = true then k else sr p (k + 1) q) = k
    rw [if_pos h]
  | m + 1, k, m', h, h' => by
    rw [show m + 1 + m' = (m + m') + 1 by omega]
    show (if p k = true then k else sr p (k + 1) (m + m')) = (if p k = true then k else sr p (k + 1) m)
    rw [sr_cut m (k + 1) m' (by rw [← h]; congr 1; omega) h']
/-- the head says from where -/
theorem hdF_eq (h : CO Φ bi sp C D A J) : C 2 0 = rvF A ∧ A 35 35 ≤ rvF A ∧ rvF A ≤ A 35 28 := by
  have jo := h.2.1.2.2.1
  unfold JO at jo
  have rg := (h.2.2.2.2.2.2.1).1 0 (by omega)
  have kb := (h.1.2.2.2.1 0 (by omega)).1
  have hd := (h.2.2.2.2.2.1).1 0 (by omega) rfl
  have w1 : A 39 0 ≤ 1 := by
    have := rg.1
    unfold rgP at this
    omega
  rw [kb]
  unfold tgA rvF
  by_cases c : A 39 0 = 1
  · rw [if_neg (by omega), if_pos c, if_pos c]
    rcases hd with q | q
    · exact ⟨rfl, q.2.1, q.2.2⟩
    · exact absurd c q.1
  · rw [if_pos (by omega), if_neg c]
    rcases hd with q | q
    · exact absurd q.1 c
    · exact ⟨rfl, by omega, by omega⟩
theorem lw34 {rc7 : Nat → Int32 → Int32 → Option Nat → tM → Option (Int32 × tM)} {x1 x2 : Int32} (h : CM b0 σ C D) (n1 : dL D < n) (n2 : n ≤ dH D) : J_X1_lastWhole_34 b0 fu rc7 (b0 + 20) x1 x2 (some (dT D 0 n)) σ = rc7 (b0 + 20) x1 x2 (if n + 1 = dH D + 1 then none else some (dT D 0 (n + 1))) σ := by
  obtain ⟨pl, t⟩ := (CG_of (z := mo0) h).tx n1 n2
  unfold J_X1_lastWhole_34
  rw [omt_some, ckO_tx t, t.2.2.2.1.2.2.2]
  by_cases e : n = dH D
  · rw [if_pos e, omt_none, if_pos (by omega)]
  · rw [if_neg e, omt_some, if_neg (by omega)]
theorem lwA (h : CM b0 σ C D) (hC : CO Φ bi sp C D A J) (hu : 5000 ≤ fu) (hf : A 35 35 ≤ fr) (hf2 : fr < 2147483648) : ∀ j n f, dL D < n → n + j = dH D + 1 → fr < n → j < f → L_X1_lastWhole_7 b0 fu f (b0 + 20) (nI fr) (nI (n - 1)) (if n = dH D + 1 then none else some (dT D 0 n)) σ = some (nI (A 35 35 + sr (fun k => !whJ A J k) (n - A 35 35 - 1) j), σ) := by
  have L := h.lay
  have jl := hC.2.1.2.1
  have jo := hC.2.1.2.2.1
  unfold JO at jo
  intro j
  induction j with
  | zero =>
    intro n f n1 hn hfn hj
    obtain ⟨f, rfl⟩ : ∃ q, f = q + 1 := ⟨f - 1, by omega⟩
    unfold L_X1_lastWhole_7
    rw [ltb_def, if_pos (by omega), omt_none]
    show some (nI (n - 1), σ) = some (nI (A 35 35 + (n - A 35 35 - 1)), σ)
    rw [show A 35 35 + (n - A 35 35 - 1) = n - 1 by omega]
  | succ j ih =>
    intro n f n1 hn hfn hj
    obtain ⟨f, rfl⟩ : ∃ q, f = q + 1 := ⟨f - 1, by omega⟩
    obtain ⟨pl, t⟩ := (CG_of (z := mo0) h).tx n1 (by omega)
    have sx : sr (fun k => !whJ A J k) (n - A 35 35 - 1) (j + 1) = if (!whJ A J (n - A 35 35 - 1)) = true then n - A 35 35 - 1 else sr (fun k => !whJ A J k) (n - A 35 35 - 1 + 1) j := rfl
    unfold L_X1_lastWhole_7
    rw [ltb_def, if_neg (by omega), omt_some, ckO_tx t, t.2.2.1.1, if_l (by omega) hf2, if_neg (by omega), ckC_20 L, isWhole_c h hC n1 (by omega) hu, cll_some, sx]
    by_cases c : whJ A J (n - A 35 35 - 1) = true
    · rw [if_pos c, c]
      show (if nI 1 = nI 0 then _ else _) = some (nI (A 35 35 + if (!true) = true then n - A 35 35 - 1 else sr (fun k => !whJ A J k) (n - A 35 35 - 1 + 1) j), σ)
      rw [if_e (by omega) (by omega), if_neg (by omega), if_neg (by decide), ckO_tx t, ltb_def, t.2.2.1.1, lw34 h n1 (by omega)]
      have := ih (n + 1) f (by omega) (by omega) (by omega) (by omega)
      rw [show n + 1 - 1 = n by omega, show n + 1 - A 35 35 - 1 = n - A 35 35 - 1 + 1 by omega] at this
      exact this
    · have c' : whJ A J (n - A 35 35 - 1) = false := by simpa using c
      rw [if_neg c, c']
      show (if nI 0 = nI 0 then _ else _) = some (nI (A 35 35 + if (!false) = true then n - A 35 35 - 1 else sr (fun k => !whJ A J k) (n - A 35 35 - 1 + 1) j), σ)
      rw [if_pos rfl, if_pos (by decide), show A 35 35 + (n - A 35 35 - 1) = n - 1 by omega]
theorem lwB (h : CM b0 σ C D) (hC : CO Φ bi sp C D A J) (hu : 5000 ≤ fu) (hf : A 35 35 ≤ fr) (hf2 : fr ≤ dH D) : ∀ j n f, dL D < n → n + j = fr + 1 → dH D + 1 - n < f → L_X1_lastWhole_7 b0 fu f (b0 + 20) (nI fr) (nI fr) (if n = dH D + 1 then none else some (dT D 0 n)) σ = some (nI (A 35 35 + sr (fun k => !whJ A J k) (fr - A 35 35) (dH D - fr)), σ) := by
  have jl := hC.2.1.2.1
  have jo := hC.2.1.2.2.1
  unfold JO at jo
  intro j
  induction j with
  | zero =>
    intro n f n1 hn hj
    have := lwA (fu := fu) h hC hu hf (by omega) (dH D - fr) n f n1 (by omega) (by omega) (by omega)
    rw [show n - 1 = fr by omega, show n - A 35 35 - 1 = fr - A 35 35 by omega] at this
    exact this
  | succ j ih =>
    intro n f n1 hn hj
    obtain ⟨f, rfl⟩ : ∃ q, f = q + 1 := ⟨f - 1, by omega⟩
    obtain ⟨pl, t⟩ := (CG_of (z := mo0) h).tx n1 (by omega)
    unfold L_X1_lastWhole_7
    rw [ltb_def, if_neg (by omega), omt_some, ckO_tx t, t.2.2.1.1, if_l (by omega) (by omega), if_pos (by omega), lw34 h n1 (by omega)]
    exact ih (n + 1) f (by omega) (by omega) (by omega)
/-- a record more is not whole -/
theorem unf_w (hC : CO Φ bi sp C D A J) (h : UNF A J) : whJ A J (A 35 28 - A 35 35) = false := by
  have jo := hC.2.1.2.2.1
  have jo0 := jo
  unfold JO at jo
  unfold whJ
  refine decide_eq_false (fun q => ?_)
  obtain ⟨q1, q2⟩ := q
  rcases h with e | ⟨e, i, i1, i2⟩
  · omega
  · have wb := whB_in (k := A 35 28 - A 35 35) (i := i) jo0
    have v := i2.1 _ (show whB A J (A 35 28 - A 35 35) i < 6200 by omega) rfl
    have z := sr_no (fun i => !(A 39 (whB A J (A 35 28 - A 35 35) i) == 2 && A 40 (whB A J (A 35 28 - A 35 35) i) == J.1 37 (A 35 28 - A 35 35))) (J.1 39 (A 35 28 - A 35 35)) 0 i (Nat.zero_le _) (by omega)
    simp only [Bool.not_eq_false', Bool.and_eq_true, beq_iff_eq] at z
    exact v z
/-- lastWhole -/
theorem lastWhole_c (h : CM b0 σ C D) (hC : CO Φ bi sp C D A J) (hU : UNF A J) (hu : 5000 ≤ fu) : m_X1_lastWhole b0 fu (b0 + 20) (nI (rvF A)) σ = some (nI (A 35 35 + rvT A J (rvF A - A 35 35)), σ) ∧ rvF A ≤ A 35 35 + rvT A J (rvF A - A 35 35) ∧ A 35 35 + rvT A J (rvF A - A 35 35) ≤ A 35 28 := by
  obtain ⟨e1, e2, e3⟩ := hdF_eq hC
  have jl := hC.2.1.2.1
  have jo := hC.2.1.2.2.1
  unfold JO at jo
  have o5 := (CG_of (z := mo0) h).old
  have uw := unf_w hC hU
  have rt : rvT A J (rvF A - A 35 35) = sr (fun k => !whJ A J k) (rvF A - A 35 35) (dH D - rvF A) := by
    unfold rvT
    rw [show J.2.1 + 1 - (rvF A - A 35 35) = (dH D - rvF A) + (J.2.1 + 1 - (rvF A - A 35 35) - (dH D - rvF A)) by omega]
    refine sr_cut _ _ _ ?_ (by omega)
    show (!whJ A J (rvF A - A 35 35 + (dH D - rvF A))) = true
    rw [show rvF A - A 35 35 + (dH D - rvF A) = A 35 28 - A 35 35 by omega, uw]
    rfl
  have le := sr_le (fun k => !whJ A J k) (dH D - rvF A) (rvF A - A 35 35)
  rw [rt]
  refine ⟨?_, by omega, by omega⟩
  generalize rvF A = fr at *
  have lb := lwB (fu := fu) h hC hu e2 (by omega) (fr - dL D) (dL D + 1) fu (by omega) (by omega) (by omega)
  unfold m_X1_lastWhole
  rw [ckC_20 h.lay, o5.1]
  by_cases c : dL D = dH D
  · rw [if_pos c, omt_none]
    rw [if_pos (by omega)] at lb
    rw [lb]
    exact grw_same
  · rw [if_neg c, omt_some]
    rw [if_neg (by omega)] at lb
    rw [lb]
    exact grw_same
end LST
