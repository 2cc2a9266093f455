/-! ===== PURE: a directory's entry, a file's bytes change, in both ===== -/
section SRF
variable {bi : Nat → Nat} {w : Nat → Nat × Nat} {C A B X : tS} {W V : Nat → Nat} {n s : Nat} {me : Bool}
theorem SR_ent {r : Nat} (h : SR bi w C A) (hr : r < 2000) (hur : us A r) (hs : (w r).2 < 2000) (hd : nd A (w r).1 0 = 2) (b36 : ∀ j, j < 6080 + r * 274 + 34 ∨ 6080 + r * 274 + 274 ≤ j → B 36 j = A 36 j) (t : tch1 C X A B (34 + r))
    (c11 : ∀ q, q < (34 + r) * 32 ∨ (34 + r) * 32 + 32 ≤ q → X 11 q = C 11 q) (hE : ∀ k, k < 8 → EW (X 11) B r k) (hO : okT B) : SR bi w X B := by
  obtain ⟨t1, t2, t3, t4, t5⟩ := h.ti
  have rlt := (t1 r hr hur).1
  have no : ∀ n' i, n' < 64 → i < 95 → nd B n' i = nd A n' i := fun n' i a b => b36 _ (by omega)
  have hp : ∀ r k, k < 32 → pt B r k = pt A r k := fun r' k hk => b36 _ (by omega)
  have hu : ∀ r, B 36 (6080 + r * 274) = A 36 (6080 + r * 274) := fun r' => b36 _ (by omega)
  have hse : ∀ r, se B r = se A r := fun r' => b36 _ (by omega)
  have hz : ∀ r' k i, r' ≠ r → k < 8 → i < 30 → eZ B r' k i = eZ A r' k i := fun r' k i e hk hi => b36 _ (by
    obtain ⟨o, ho, o1, o2⟩ : ∃ o, 34 + k * 30 + i = o ∧ 34 ≤ o ∧ o < 274 := ⟨_, rfl, by omega, by omega⟩
    rw [ho]
    omega)
  have U : ∀ r, us B r ↔ us A r := fun r => by unfold us; rw [hu]
  have S : ∀ n' s', n' < 64 → vs s' → slo B n' s' = slo A n' s' := fun n' s' a b => slo_cong (fun n' i a _ c => no n' i a c) hp a b
  have B35 : B 35 = A 35 := t.2.2.2.2.1 35 (by decide) (by decide)
  have pvE : ∀ x, pv bi B x = pv bi A x := fun x => by unfold pv; rw [hse]
  obtain ⟨m1, m2, m3, m4⟩ := h.mr
  refine ⟨tch_rk h.rk t, ⟨fun r' hr' hur' => ?_, fun n' s' r' a b c => ?_, fun n' a b c i hi => ?_, fun r' a b k hk => ?_, fun r' a b k hk => ?_⟩, ⟨fun j hj => ?_, fun r' hr' => ?_, fun n' hn' => ?_, fun r' hr' hur' => ?_⟩, fun r' hr' hur' h2 h3 j hj => ?_, BJ_tch h.bj t hu hse, ZM_tch h.zm (by omega) (by omega) t hu hse, hO, ?_⟩
  · have hua := (U r').mp hur'
    have a := t1 r' hr' hua
    rw [B35, no _ 0 a.2.1 (by omega), S _ _ a.2.1 a.2.2.2.1]
    exact a
  · rw [S n' s' a b] at c
    obtain ⟨q1, q2, q3⟩ := t2 n' s' r' a b c
    exact ⟨q1, (U r').mpr q2, q3⟩
  · rw [no n' 0 a (by omega)] at b c
    rw [no n' _ a (by omega)]
    exact t3 n' a b c i hi
  · rw [hp r' k hk]
    exact t4 r' a (fun q => b ((U r').mpr q)) k hk
  · have e : r' ≠ r := by
      intro e
      subst e
      have := b ((U r').mpr hur) hs
      rw [no _ 0 (t1 r' hr hur).2.1 (by omega)] at this
      exact this hd
    rw [hz r' k 0 e hk (by omega)]
    exact t5 r' a (fun q q2 => by have := b ((U r').mpr q) q2; rwa [no _ 0 (t1 r' a q).2.1 (by omega)] at this) k hk
  · rw [c11 _ (by omega)]
    exact m1 j hj
  · rw [c11 _ (by omega), hu]
    exact m2 r' hr'
  · obtain ⟨a1, a2, a3, a4⟩ := m3 n' hn'
    have lo : ∀ i, i < 95 → nd B n' i = nd A n' i := fun i hi => no n' i hn' hi
    have b4 := (nd_k h.ok hn').2.2.2.2
    unfold NW
    rw [lo 0 (by omega), lo 1 (by omega), lo 2 (by omega), lo 3 (by omega), lo 4 (by omega), c11 _ (by omega)]
    refine ⟨a1, fun c i hi => ?_, fun c i hi => ?_, fun c i hi => ?_⟩
    · rw [lo (5 + i) (by omega), ← a2 c i hi]
      exact oW_e (c11 _ (by omega)) rfl
    · rw [c11 _ (by omega), lo _ (by omega), pvE]
      exact a3 c i hi
    · rw [c11 _ (by omega)]
      exact a4 c i hi
  · have hua := (U r').mp hur'
    by_cases e : r' = r
    · subst e
      refine ⟨fun c k hk => by omega, fun c d k hk => hE k hk⟩
    · obtain ⟨b1, b2⟩ := m4 r' hr' hua
      refine ⟨fun c k hk => ?_, fun c d k hk => ?_⟩
      · rw [c11 _ (by omega), hp r' k hk, pvE]
        exact b1 c k hk
      · rw [no _ 0 (t1 r' hr' hua).2.1 (by omega)] at d
        exact EW_o hk (b2 c d k hk) (fun i hi => hz r' k i e hk hi) (by have := (eZ_lt h.ok (r := r') hk).2.1; omega) (fun i hi => c11 _ (by omega))
  · have hua := (U r').mp hur'
    rw [no _ 0 (t1 r' hr' hua).2.1 (by omega)] at h3
    have e : r' ≠ r := fun e => by rw [e] at h3; omega
    show by8 (X 11 ((34 + r') * 32 + j / 8)) (j % 8) = B 47 (256 * r' + j)
    rw [c11 _ (by omega), t.2.2.2.2.1 47 (by decide) (by decide)]
    exact h.fb r' hr' hua h2 h3 j hj
  · exact GH_tch h.gh t (fun r' _ q => (U r').mp q) (fun r' hr' hua => no _ 0 (t1 r' hr' hua).2.1 (by omega)) (fun c j k1 k2 => c11 _ (by omega)) h.zm.2.2.2.2.2.2.2.2.2 h.zm.1.2.2.2.1
theorem SR_byt {r : Nat} (h : SR bi w C A) (hr : r < 2000) (hur : us A r) (hs : (w r).2 < 2000) (hd : nd A (w r).1 0 = 1) (bo : ∀ p, p ≠ 47 → p ≠ 48 → B p = A p) (b47 : ∀ q, q < 256 * r ∨ 256 * r + 256 ≤ q → B 47 q = A 47 q) (b48 : ∀ q, q ≠ r → B 48 q = A 48 q)
    (co : ∀ p, p ≠ 10 → p ≠ 11 → p ≠ 17 → X p = C p) (c10 : ∀ q, q ≠ 13 → X 10 q = C 10 q) (c11 : ∀ q, q < (34 + r) * 32 ∨ (34 + r) * 32 + 32 ≤ q → X 11 q = C 11 q) (c17 : ∀ k, k ≠ 34 + r → X 17 k = C 17 k) (cd : X 17 (34 + r) = 0 ↔ B 48 r = 0) (hci : ci X) (hY : bytR (fun k => X 11 ((34 + r) * 32 + k)) (B 47) (256 * r)) : SR bi w X B := by
  have B36 : B 36 = A 36 := bo 36 (by decide) (by decide)
  have B35 : B 35 = A 35 := bo 35 (by decide) (by decide)
  have rlt := (h.ti.1 r hr hur).1
  have hT : TI w B := by
    have := h.ti
    unfold TI slo hasA leafA us nd pt eZ at this ⊢
    rw [B36, B35]
    exact this
  have U : ∀ r, us B r ↔ us A r := fun r => by unfold us; rw [B36]
  have no : ∀ n' i, nd B n' i = nd A n' i := fun n' i => by unfold nd; rw [B36]
  obtain ⟨m1, m2, m3, m4⟩ := h.mr
  have nn : ∀ i, i < (34 + r) * 32 ∨ (34 + r) * 32 + 32 ≤ i → X 11 i = C 11 i := c11
  refine ⟨rk_by hci (sk_cong h.rk.2.1 (co 12 (by decide) (by decide) (by decide)) (fun q hq => c10 q (by omega))) (c10 16 (by decide)) h.rk, hT, ⟨fun j hj => ?_, fun r' hr' => ?_, fun n' hn' => ?_, fun r' hr' hur' => ?_⟩, fun r' hr' hur' h2 h3 j hj => ?_, ?_, ?_, ?_, ?_⟩
  · rw [c11 _ (by omega)]
    exact m1 j hj
  · rw [c11 _ (by omega), B36]
    exact m2 r' hr'
  · obtain ⟨a1, a2, a3, a4⟩ := m3 n' hn'
    have b4 := (nd_k h.ok hn').2.2.2.2
    unfold NW pv se
    unfold pv se at a3
    rw [no, no, no, no, no, c11 _ (by omega), B36]
    refine ⟨a1, fun c i hi => ?_, fun c i hi => ?_, fun c i hi => ?_⟩
    · rw [no, ← a2 c i hi]
      exact oW_e (c11 _ (by omega)) rfl
    · rw [c11 _ (by omega), no]
      exact a3 c i hi
    · rw [c11 _ (by omega)]
      exact a4 c i hi
  · have hua := (U r').mp hur'
    obtain ⟨b1, b2⟩ := m4 r' hr' hua
    have ez : ∀ k i, eZ B r' k i = eZ A r' k i := fun k i => by unfold eZ; rw [B36]
    refine ⟨fun c k hk => ?_, fun c d k hk => ?_⟩
    · have e : r' ≠ r := fun e => by rw [e] at c; omega
      rw [c11 _ (by omega)]
      unfold pv pt se
      rw [B36]
      exact b1 c k hk
    · rw [no] at d
      have e : r' ≠ r := fun e => by rw [e] at d; omega
      exact EW_o hk (b2 c d k hk) (fun i _ => ez k i) (by have := (eZ_lt h.ok (r := r') hk).2.1; omega) (fun i hi => c11 _ (by omega))
  · have hua := (U r').mp hur'
    by_cases e : r' = r
    · subst e
      exact hY j hj
    · rw [no] at h3
      show by8 (X 11 ((34 + r') * 32 + j / 8)) (j % 8) = B 47 (256 * r' + j)
      rw [c11 _ (by omega), b47 _ (by omega)]
      exact h.fb r' hr' hua h2 h3 j hj
  · have := h.bj
    unfold BJ us se at this ⊢
    rw [B36, B35, c10 15 (by decide)]
    exact this
  · obtain ⟨z1, z6, z7, z8, z9, z10, z11, z12, z13, z14⟩ := h.zm
    unfold ZM us nbA se
    unfold us se at z7
    unfold nbA at z8
    unfold us at z14
    rw [B36, B35, bo 49 (by decide) (by decide), bo 51 (by decide) (by decide), bo 52 (by decide) (by decide), bo 50 (by decide) (by decide), bo 71 (by decide) (by decide), c10 7 (by decide), c10 8 (by decide), c10 16 (by decide), co 12 (by decide) (by decide) (by decide), co 13 (by decide) (by decide) (by decide), co 14 (by decide) (by decide) (by decide), co 15 (by decide) (by decide) (by decide), co 16 (by decide) (by decide) (by decide), co 19 (by decide) (by decide) (by decide), co 32 (by decide) (by decide) (by decide)]
    refine ⟨z1, z6, z7, z8, z9, fun r' hr' => ?_, fun c hc => ?_, z12, z13, fun r' hr' q => ?_⟩
    · by_cases e : r' = r
      · rw [e]
        exact cd
      · rw [c17 _ (by omega), b48 _ e]
        exact z10 r' hr'
    · rw [c17 _ (by omega)]
      exact z11 c hc
    · by_cases e : r' = r
      · rw [e]
        exact hur
      · rw [b48 _ e] at q
        exact z14 r' hr' q
  · have := h.ok
    unfold okT at this ⊢
    rw [B36]
    exact this
  · obtain ⟨q1, q2, q3, q4, q5⟩ := h.gh
    have c15 := co 15 (by decide) (by decide) (by decide)
    have c16 := co 16 (by decide) (by decide) (by decide)
    have c100 := co 100 (by decide) (by decide) (by decide)
    refine ⟨fun c k1 k2 k3 j hj => ?_, fun r' hr' hur' hm k3 j hj => ?_, fun r' hr' k => ?_, fun c hc => by rw [c16]; exact q4 c hc, fun r' hr' k => ?_⟩
    · rw [c15] at k3
      rw [c100, c11 _ (by omega)]
      exact q1 c k1 k2 k3 j hj
    · rw [c15] at k3
      rw [no] at hm
      have e : r' ≠ r := fun e => by rw [e] at hm; omega
      rw [c100, c11 _ (by omega)]
      exact q2 r' hr' ((U r').mp hur') hm k3 j hj
    · rw [B35] at hr'
      rw [c16] at k
      rw [bo 49 (by decide) (by decide)]
      exact q3 r' hr' k
    · rw [B35] at hr'
      rw [no]
      by_cases e : r' = r
      · rw [e]
        exact ⟨hs, hd⟩
      · rw [b48 _ e] at k
        exact q5 r' hr' k
end SRF
