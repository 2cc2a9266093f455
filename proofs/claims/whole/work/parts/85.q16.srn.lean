/-! ===== PURE: a node's own words change, in both ===== -/
section SRN
variable {bi : Nat → Nat} {w : Nat → Nat × Nat} {C A B X : tS} {W V : Nat → Nat} {n s : Nat} {me : Bool}
theorem slo_cong (h1 : ∀ n' i, n' < 64 → 85 ≤ i → i < 95 → nd B n' i = nd A n' i) (h2 : ∀ r k, k < 32 → pt B r k = pt A r k) {n' s' : Nat} (hn : n' < 64) (hv : vs s') : slo B n' s' = slo A n' s' := by
  have root : ∀ s', rs s' = true → slo B n' s' = slo A n' s' := fun s' hs => by
    obtain ⟨l1, l2⟩ := ro_lt hs
    rw [slo_r hs, slo_r hs, h1 n' _ hn l1 l2]
  have tab : ∀ s', vs s' → rs s' = false → slo B n' (pa s') = slo A n' (pa s') → slo B n' s' = slo A n' s' := fun s' hv hs ih => by
    obtain ⟨a1, -, -, a4, -⟩ := slo_n (A := A) (n := n') hv hs
    rw [(slo_n (A := B) (n := n') hv hs).1, a1, ih, h2 _ _ a4]
  cases hs : rs s' with
  | true => exact root s' hs
  | false =>
    obtain ⟨-, a2, a3, -, -⟩ := slo_n (A := A) (n := n') hv hs
    refine tab s' hv hs ?_
    cases hs2 : rs (pa s') with
    | true => exact root _ hs2
    | false =>
      refine tab _ a2 hs2 (root _ ?_)
      have q := rs_f hs2
      unfold vs at a2
      have p1 : ∀ t, 2100 ≤ t → pa t = 2001 := fun t ht => by unfold pa; rw [if_pos ht]
      rw [p1 _ (by omega)]
      rfl
theorem slo_0 {n' : Nat} (h : ∀ i, i < 10 → nd A n' (85 + i) = 0) {s' : Nat} (hv : vs s') : slo A n' s' = 0 := by
  have root : ∀ s', rs s' = true → slo A n' s' = 0 := fun s' hs => by
    obtain ⟨l1, l2⟩ := ro_lt hs
    have := h (ro s' - 85) (by omega)
    rw [slo_r hs]
    rwa [show 85 + (ro s' - 85) = ro s' by omega] at this
  have tab : ∀ s', vs s' → rs s' = false → slo A n' (pa s') = 0 → slo A n' s' = 0 := fun s' hv hs ih => by
    rw [(slo_n (A := A) (n := n') hv hs).1, if_pos ih]
  cases hs : rs s' with
  | true => exact root s' hs
  | false =>
    obtain ⟨-, a2, a3, -, -⟩ := slo_n (A := A) (n := n') hv hs
    refine tab s' hv hs ?_
    cases hs2 : rs (pa s') with
    | true => exact root _ hs2
    | false =>
      refine tab _ a2 hs2 (root _ ?_)
      have q := rs_f hs2
      unfold vs at a2
      have p1 : ∀ t, 2100 ≤ t → pa t = 2001 := fun t ht => by unfold pa; rw [if_pos ht]
      rw [p1 _ (by omega)]
      rfl
/-- one cell more is touched -/
def tch1 (C X A B : tS) (c : Nat) : Prop := (∀ k, X 15 k = 0 ↔ k ≠ c ∧ C 15 k = 0) ∧ (∀ b, B 51 b = 0 ↔ b ≠ nbA A c ∧ A 51 b = 0) ∧ (∀ p, p ≠ 10 → p ≠ 11 → p ≠ 15 → X p = C p) ∧ (∀ q, q ≠ 11 → X 10 q = C 10 q) ∧ (∀ p, p ≠ 36 → p ≠ 51 → B p = A p) ∧ ci X
theorem tch_rk (h : rk3 C) {c : Nat} (t : tch1 C X A B c) : rk3 X := rk_by t.2.2.2.2.2 (sk_cong h.2.1 (t.2.2.1 12 (by decide) (by decide) (by decide)) (fun q hq => t.2.2.2.1 q (by omega))) (t.2.2.2.1 16 (by decide)) h
/-- marks and states with one cell more touched; uses and serials are as they were -/
theorem ZM_tch (h : ZM bi w C A) {c : Nat} (h1 : 1 ≤ c) (h2 : c < 34 + A 35 7) (t : tch1 C X A B c) (hu : ∀ r, B 36 (6080 + r * 274) = A 36 (6080 + r * 274)) (hse : ∀ r, se B r = se A r) : ZM bi w X B := by
  obtain ⟨⟨z1, z2, z3, z4, z5⟩, z6, z7, z8, z9, z10, z11, z12, z13, z14⟩ := h
  obtain ⟨t1, t2, t3, t4, t5, -⟩ := t
  have B35 : B 35 = A 35 := t5 35 (by decide) (by decide)
  have U : ∀ r, us B r ↔ us A r := fun r => by unfold us; rw [hu]
  have nbB : ∀ c, nbA B c = nbA A c := fun c => by unfold nbA; rw [B35]
  unfold ZM
  rw [B35, t4 7 (by decide), t4 8 (by decide), t4 16 (by decide), t3 12 (by decide) (by decide) (by decide), t3 13 (by decide) (by decide) (by decide), t3 14 (by decide) (by decide) (by decide), t3 16 (by decide) (by decide) (by decide), t3 17 (by decide) (by decide) (by decide), t3 19 (by decide) (by decide) (by decide), t3 32 (by decide) (by decide) (by decide), t5 49 (by decide) (by decide), t5 52 (by decide) (by decide), t5 48 (by decide) (by decide), t5 50 (by decide) (by decide), t5 71 (by decide) (by decide)]
  refine ⟨⟨z1, z2, z3, z4, z5⟩, fun r hr => by rw [hu]; exact z6 r hr, fun r hr hur => by rw [hse]; exact z7 r hr ((U r).mp hur), fun k k1 k2 => ?_, fun b hb => ?_, z10, z11, z12, z13, fun r hr q => (U r).mpr (z14 r hr q)⟩
  · obtain ⟨x1, x2⟩ := z8 k k1 k2
    rw [nbB, t1, t2, ← x1]
    refine ⟨?_, x2⟩
    have inj : nbA A k = nbA A c ↔ k = c := by
      unfold nbA
      constructor
      · intro q
        split at q <;> split at q <;> omega
      · intro q
        rw [q]
    have inj' : nbA A k ≠ nbA A c ↔ k ≠ c := not_congr inj
    rw [inj']
  · obtain ⟨x1, x2⟩ := z9 b hb
    rw [t2]
    refine ⟨⟨?_, x1⟩, x2⟩
    unfold nbA
    split <;> omega
theorem BJ_tch (h : BJ bi C A) {c : Nat} (t : tch1 C X A B c) (hu : ∀ r, B 36 (6080 + r * 274) = A 36 (6080 + r * 274)) (hse : ∀ r, se B r = se A r) : BJ bi X B := by
  obtain ⟨t1, t2, t3, t4, t5, -⟩ := t
  unfold BJ
  rw [t4 15 (by decide), t5 35 (by decide) (by decide)]
  exact ⟨h.1, h.2.1, h.2.2.1, fun r hr hur => by rw [hse]; exact h.2.2.2 r hr (by unfold us at hur ⊢; rwa [hu] at hur)⟩
/-- what stands untouched, with one cell more touched -/
theorem GH_tch (h : GH w C A) {c : Nat} (t : tch1 C X A B c) (hu : ∀ r, r < 2000 → us B r → us A r) (kd : ∀ r, r < 2000 → us A r → nd B (w r).1 0 = nd A (w r).1 0) (c11 : ∀ k j, k ≠ c → j < 32 → X 11 (k * 32 + j) = C 11 (k * 32 + j)) (hz : ∀ r, r < A 35 7 → A 48 r ≠ 0 → us A r) (h7 : A 35 7 ≤ 2000) : GH w X B := by
  obtain ⟨q1, q2, q3, q4, q5⟩ := h
  obtain ⟨t1, t2, t3, t4, t5, -⟩ := t
  have c100 : X 100 = C 100 := t3 100 (by decide) (by decide) (by decide)
  have c16 : X 16 = C 16 := t3 16 (by decide) (by decide) (by decide)
  refine ⟨fun k k1 k2 k3 j hj => ?_, fun r hr hur hm k3 j hj => ?_, fun r hr k => ?_, fun k hk => by rw [c16]; exact q4 k hk, fun r hr k => ?_⟩
  · obtain ⟨x1, x2⟩ := (t1 k).mp k3
    rw [c100, c11 k j x1 hj]
    exact q1 k k1 k2 x2 j hj
  · obtain ⟨x1, x2⟩ := (t1 _).mp k3
    have hua := hu r hr hur
    rw [kd r hr hua] at hm
    rw [c100, c11 _ j x1 hj]
    exact q2 r hr hua hm x2 j hj
  · rw [t5 35 (by decide) (by decide)] at hr
    rw [c16] at k
    rw [t5 49 (by decide) (by decide)]
    exact q3 r hr k
  · rw [t5 35 (by decide) (by decide)] at hr
    rw [t5 48 (by decide) (by decide)] at k
    rw [kd r (by omega) (hz r hr k)]
    exact q5 r hr k
theorem SR_nod (h : SR bi w C A) (hn : n < 64) (b36 : ∀ j, j < n * 95 ∨ n * 95 + 85 ≤ j → B 36 j = A 36 j) (t : tch1 C X A B (2 + n / 2)) (c11 : ∀ q, q < 64 + n * 16 ∨ 64 + n * 16 + 16 ≤ q → X 11 q = C 11 q)
    (hkd : nd B n 0 = nd A n 0 ∨ ∀ i, i < 10 → nd A n (85 + i) = 0) (hN : NW bi (X 11) B n) (hO : okT B) : SR bi w X B := by
  have hT := h.ti
  obtain ⟨t1, t2, t3, t4, t5⟩ := h.ti
  have nh : ∀ n' i, n' < 64 → 85 ≤ i → i < 95 → nd B n' i = nd A n' i := fun n' i a b c => b36 _ (by omega)
  have no : ∀ n' i, n' < 64 → i < 95 → n' ≠ n → nd B n' i = nd A n' i := fun n' i a b c => b36 _ (by omega)
  have hp : ∀ r k, k < 32 → pt B r k = pt A r k := fun r k hk => b36 _ (by omega)
  have hu : ∀ r, B 36 (6080 + r * 274) = A 36 (6080 + r * 274) := fun r => b36 _ (by omega)
  have hse : ∀ r, se B r = se A r := fun r => b36 _ (by omega)
  have hz : ∀ r k i, eZ B r k i = eZ A r k i := fun r k i => b36 _ (by omega)
  have U : ∀ r, us B r ↔ us A r := fun r => by unfold us; rw [hu]
  have S : ∀ n' s', n' < 64 → vs s' → slo B n' s' = slo A n' s' := fun n' s' a b => slo_cong nh hp a b
  have B35 : B 35 = A 35 := t.2.2.2.2.1 35 (by decide) (by decide)
  have kd : ∀ r, r < 2000 → us A r → nd B (w r).1 0 = nd A (w r).1 0 := by
    intro r hr hur
    by_cases c : (w r).1 = n
    · rcases hkd with q | q
      · rw [c]; exact q
      · exfalso
        have a := t1 r hr hur
        rw [c] at a
        have := slo_0 q a.2.2.2.1
        have b := a.2.2.2.2
        omega
    · exact no _ _ (t1 r hr hur).2.1 (by omega) c
  have pvE : ∀ x, pv bi B x = pv bi A x := fun x => by unfold pv; rw [hse]
  obtain ⟨m1, m2, m3, m4⟩ := h.mr
  refine ⟨tch_rk h.rk t, ⟨fun r hr hur => ?_, fun n' s' r a b c => ?_, fun n' a b c i hi => ?_, fun r a b k hk => ?_, fun r a b k hk => ?_⟩, ⟨fun j hj => ?_, fun r hr => ?_, fun n' hn' => ?_, fun r hr hur => ?_⟩, fun r hr hur h2 h3 j hj => ?_, BJ_tch h.bj t hu hse, ZM_tch h.zm (by omega) (by omega) t hu hse, hO, ?_⟩
  · have hua := (U r).mp hur
    have a := t1 r hr hua
    rw [B35, kd r hr hua, S _ _ a.2.1 a.2.2.2.1]
    exact a
  · rw [S n' s' a b] at c
    obtain ⟨q1, q2, q3⟩ := t2 n' s' r a b c
    exact ⟨q1, (U r).mpr q2, q3⟩
  · rw [nh n' _ a (by omega) (by omega)]
    by_cases e : n' = n
    · subst e
      rcases hkd with q | q
      · rw [q] at b c
        exact t3 n' a b c i hi
      · exact q i hi
    · rw [no n' 0 a (by omega) e] at b c
      exact t3 n' a b c i hi
  · rw [hp r k hk]
    exact t4 r a (fun q => b ((U r).mpr q)) k hk
  · rw [hz]
    exact t5 r a (fun q q2 => by have := b ((U r).mpr q) q2; rwa [kd r a q] at this) k hk
  · rw [c11 _ (by omega)]
    exact m1 j hj
  · rw [c11 _ (by omega), hu]
    exact m2 r hr
  · by_cases e : n' = n
    · subst e
      exact hN
    · obtain ⟨a1, a2, a3, a4⟩ := m3 n' hn'
      have lo : ∀ i, i < 95 → nd B n' i = nd A n' i := fun i hi => no n' i hn' hi e
      have b4 := (nd_k h.ok hn').2.2.2.2
      unfold NW
      rw [lo 0 (by omega), lo 1 (by omega), lo 2 (by omega), lo 3 (by omega), lo 4 (by omega), c11 _ (by omega)]
      refine ⟨a1, fun c i hi => ?_, fun c i hi => ?_, fun c i hi => ?_⟩
      · rw [lo (5 + i) (by omega), ← a2 c i hi]
        exact oW_e (c11 _ (by omega)) rfl
      · rw [c11 _ (by omega), lo _ (by omega), pvE]
        exact a3 c i hi
      · rw [c11 _ (by omega)]
        exact a4 c i hi
  · have hua := (U r).mp hur
    obtain ⟨b1, b2⟩ := m4 r hr hua
    refine ⟨fun c k hk => ?_, fun c d k hk => ?_⟩
    · rw [c11 _ (by omega), hp r k hk, pvE]
      exact b1 c k hk
    · rw [kd r hr hua] at d
      exact EW_o hk (b2 c d k hk) (fun i _ => hz r k i) (by have := (eZ_lt h.ok (r := r) hk).2.1; omega) (fun i hi => c11 _ (by omega))
  · have hua := (U r).mp hur
    rw [kd r hr hua] at h3
    show by8 (X 11 ((34 + r) * 32 + j / 8)) (j % 8) = B 47 (256 * r + j)
    rw [c11 _ (by omega), t.2.2.2.2.1 47 (by decide) (by decide)]
    exact h.fb r hr hua h2 h3 j hj
  · refine GH_tch h.gh t (fun r hr q => (U r).mp q) kd (fun c j k1 k2 => ?_) h.zm.2.2.2.2.2.2.2.2.2 h.zm.1.2.2.2.1
    exact c11 _ (by omega)
/-- a node's mark of change -/
theorem SR_chg (h : SR bi w C A) {v v' : Nat} (e : v = 0 ↔ v' = 0) : SR bi w (up2 C 19 n v) (up2 A 50 n v') := by
  have Ao : ∀ p, p ≠ 50 → up2 A 50 n v' p = A p := fun p hp => up2_rown hp
  have Co : ∀ p, p ≠ 19 → up2 C 19 n v p = C p := fun p hp => up2_rown hp
  have hT : TI w (up2 A 50 n v') := by
    have := h.ti
    unfold TI slo hasA leafA us nd pt eZ at this ⊢
    rw [Ao 36 (by decide), Ao 35 (by decide)]
    exact this
  have hM : MR bi w (C 11) (up2 A 50 n v') := by
    have := h.mr
    unfold MR NW BW EW us nd pt eZ pv se at this ⊢
    rw [Ao 36 (by decide)]
    exact this
  have hF : FB w (C 11) (up2 A 50 n v') := by
    have := h.fb
    unfold FB us nd at this ⊢
    rw [Ao 36 (by decide), Ao 47 (by decide)]
    exact this
  have hB : BJ bi (up2 C 19 n v) (up2 A 50 n v') := by
    have := h.bj
    unfold BJ us se at this ⊢
    rw [Ao 36 (by decide), Ao 35 (by decide), Co 10 (by decide)]
    exact this
  refine ⟨rk_by (ci_19 h.rk.1) (sk_cong h.rk.2.1 (Co 12 (by decide)) (fun q _ => by rw [Co 10 (by decide)])) (by rw [Co 10 (by decide)]) h.rk, hT, by rw [Co 11 (by decide)]; exact hM, by rw [Co 11 (by decide)]; exact hF, hB, ?_, okT_oth h.ok (by decide), ?_⟩
  · obtain ⟨z1, z6, z7, z8, z9, z10, z11, z12, z13, z14⟩ := h.zm
    unfold ZM us nbA se
    unfold us se at z7
    unfold nbA at z8
    unfold us at z14
    rw [Ao 36 (by decide), Ao 35 (by decide), Ao 49 (by decide), Ao 51 (by decide), Ao 52 (by decide), Ao 48 (by decide), Ao 71 (by decide), Co 10 (by decide), Co 12 (by decide), Co 13 (by decide), Co 14 (by decide), Co 15 (by decide), Co 16 (by decide), Co 17 (by decide), Co 32 (by decide)]
    refine ⟨z1, z6, z7, z8, z9, z10, z11, fun n' hn' => ?_, z13, z14⟩
    by_cases c : n' = n
    · rw [c, up2_s, up2_s]
      exact e
    · rw [up2_j c, up2_j c]
      exact z12 n' hn'
  · have := h.gh
    unfold GH us nd at this ⊢
    rw [Ao 36 (by decide), Ao 35 (by decide), Ao 49 (by decide), Ao 48 (by decide), Co 11 (by decide), Co 15 (by decide), Co 16 (by decide), Co 100 (by decide)]
    exact this
end SRN
