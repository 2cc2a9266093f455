/-! ===== PURE: drop, in both: SR stays ===== -/
/-- tables are not empty, but perhaps one -/
def TFx (A : tS) (n s : Nat) : Prop := ∀ n' s', n' < 64 → vs s' → 2000 ≤ s' → ¬ (n' = n ∧ s' = s) → slo A n' s' ≠ 0 → ∃ k, k < 32 ∧ slo A n' (chS s' k) ≠ 0
def TF (A : tS) : Prop := ∀ n' s', n' < 64 → vs s' → 2000 ≤ s' → slo A n' s' ≠ 0 → ∃ k, k < 32 ∧ slo A n' (chS s' k) ≠ 0
/-- a table taken away if it is empty -/
def dtA (A : tS) (n s : Nat) : tS := if empA A (slo A n s - 1) = true then deAt A n s true else A
def dtC (C A : tS) (n s : Nat) : tS := if zfC C (34 + (slo A n s - 1)) 0 = true then deCt C A n s true else C
section SRJ
variable {bi : Nat → Nat} {w : Nat → Nat × Nat} {C A B X : tS} {W V : Nat → Nat} {n s i : Nat} {me : Bool}
theorem free_50 {k v r : Nat} : freeA (up2 A 50 k v) r me = up2 (freeA A r me) 50 k v := by
  unfold freeA
  rw [up2_o (show (35 : Nat) ≠ 50 by decide)]
  cases me with
  | true =>
    dsimp only
    rw [cond_true, cond_true, up_c (by decide), up_c (by decide), up_c (by decide), up_c (by decide), up_c (by decide), up_c (by decide)]
  | false =>
    dsimp only
    rw [cond_false, cond_false, up_c (by decide), up_c (by decide), up_c (by decide), up_c (by decide)]
theorem de_r (hn : n < 64) (hs : rs s = true) : freeA (setN A n (ro s) 0) (slo A n s - 1) me = deAt A n s me := by
  unfold deAt setN
  have e : nbA A (tcC A n s) = 2 + n / 2 := by
    unfold nbA tcC
    rw [if_pos hs, if_pos (by omega)]
  rw [lc_r hs, e]
theorem de_n (hs : rs s = false) {d k : Nat} (h1 : d = slo A n (pa s) - 1) (h2 : k = kx s) : freeA (setP A d k 0) (slo A n s - 1) me = deAt A n s me := by
  unfold deAt setP
  have e0 : tcC A n s = 34 + (slo A n (pa s) - 1) := by unfold tcC; rw [hs]; rfl
  have e : nbA A (tcC A n s) = 34 + A 35 6 + d := by
    unfold nbA
    rw [e0, if_neg (by omega), h1]
    omega
  rw [lc_n hs, e, h1, h2]
theorem deC_r (hs : rs s = true) {c : Nat} (hc : c = 34 + (slo A n s - 1)) : relC (snC C n (ro s - 84) 0) c me = deCt C A n s me := by
  unfold snC deCt tcC
  rw [lw_r hs, if_pos hs, hc]
theorem deC_n (hs : rs s = false) {c d k : Nat} (hc : c = 34 + (slo A n s - 1)) (h1 : d = 34 + (slo A n (pa s) - 1)) (h2 : k = kx s) (h7 : d < C 10 7) : relC (swoC C d k 0) c me = deCt C A n s me := by
  unfold swoC deCt tcC
  rw [if_pos ⟨by omega, h7⟩, lw_n hs, hs, if_neg (by decide), hc, h1, h2]
theorem TF_x (h : TF A) : TFx A n s := fun n' s' a b c _ e => h n' s' a b c e
/-- a place emptied: only its table may be empty then -/
theorem TF_de (h : TFx A n s) (hv : vs s) (hS : ∀ n' s', n' < 64 → vs s' → slo B n' s' = if n' = n ∧ s' = s then 0 else slo A n' s') : (rs s = true → TF B) ∧ (rs s = false → TFx B n (pa s)) := by
  have key : ∀ n' s', n' < 64 → vs s' → 2000 ≤ s' → (rs s = false → ¬ (n' = n ∧ s' = pa s)) → slo B n' s' ≠ 0 → ∃ k, k < 32 ∧ slo B n' (chS s' k) ≠ 0 := by
    intro n' s' a b c d e
    rw [hS n' s' a b] at e
    by_cases q : n' = n ∧ s' = s
    · rw [if_pos q] at e
      exact absurd rfl e
    · rw [if_neg q] at e
      obtain ⟨k, k1, k2⟩ := h n' s' a b c q e
      obtain ⟨c1, c2, c3, c4⟩ := chS_ok b c k1
      refine ⟨k, k1, ?_⟩
      rw [hS n' _ a c1, if_neg]
      · exact k2
      · intro z
        rw [z.2] at c2 c3
        exact d c2 ⟨z.1, c3.symm⟩
  exact ⟨fun r n' s' a b c e => key n' s' a b c (fun q => by rw [r] at q; cases q) e, fun _ n' s' a b c d e => key n' s' a b c (fun _ => d) e⟩
theorem dt_all (h : SR bi w C A) (hn : n < 64) (hv : vs s) (h2 : 2000 ≤ s) (h0 : slo A n s ≠ 0) :
    SR bi w (dtC C A n s) (dtA A n s) ∧ (∀ n' s', n' < 64 → vs s' → ¬ (n' = n ∧ s' = s) → slo (dtA A n s) n' s' = slo A n' s') ∧ (slo (dtA A n s) n s = slo A n s ∨ slo (dtA A n s) n s = 0) ∧ Les C (dtC C A n s) A (dtA A n s) ∧ (TFx A n s → (rs s = true → TF (dtA A n s)) ∧ (rs s = false → TFx (dtA A n s) n (pa s))) := by
  obtain ⟨r, hr⟩ : ∃ r, slo A n s = r + 1 := ⟨slo A n s - 1, by omega⟩
  obtain ⟨u1, u2, u3⟩ := h.ti.2.1 n s r hn hv hr
  have er : slo A n s - 1 = r := by omega
  have ee := emp_c h u1 u2 (by rw [u3]; exact h2)
  unfold dtA dtC
  rw [er]
  by_cases c : empA A r = true
  · rw [if_pos c, if_pos (ee.mpr c)]
    obtain ⟨g1, g2, g3⟩ := de_all (me := true) h hn hv hr (emp_iff.mp c) (h.ti.2.2.2.2 r u1 (fun _ q => by rw [u3] at q; have : s < 2000 := q; omega))
    refine ⟨g1, fun n' s' a b d => by rw [g2 n' s' a b, if_neg d], Or.inr (by rw [g2 n s hn hv, if_pos ⟨rfl, rfl⟩]), g3, fun t => TF_de t hv g2⟩
  · rw [if_neg c, if_neg (fun q => c (ee.mp q))]
    refine ⟨h, fun _ _ _ _ _ => rfl, Or.inl rfl, Les_r, fun t => ?_⟩
    have own : ∃ k, k < 32 ∧ slo A n (chS s k) ≠ 0 := by
      refine Classical.byContradiction (fun q => c (emp_iff.mpr (fun k hk => ?_)))
      have := pt_slo h.ti u1 u2 (by rw [u3]; exact h2) hk
      rw [u3] at this
      rw [← this]
      exact Classical.byContradiction (fun z => q ⟨k, hk, z⟩)
    have tf : TF A := by
      intro n' s' a b c e
      by_cases q : n' = n ∧ s' = s
      · rw [q.1, q.2]
        exact own
      · exact t n' s' a b c q e
    exact ⟨fun _ => tf, fun _ => TF_x tf⟩
theorem Les_50 {k v v' m : Nat} : Les C (up2 C 19 k v) A (up2 A 50 m v') := by
  refine ⟨fun q => up2_o (by decide), up2_o (by decide), ?_, fun _ _ _ _ => nd_50, fun r k i _ _ => by unfold eZ; rw [up2_o (by decide)], fun r h => by unfold us at h ⊢; rwa [up2_o (by decide)] at h, fun r => by unfold se; rw [up2_o (by decide)]⟩
  unfold fre frA
  rw [up2_rown (show (36 : Nat) ≠ 50 by decide), up2_rown (show (49 : Nat) ≠ 50 by decide), up2_rown (show (35 : Nat) ≠ 50 by decide)]
end SRJ
