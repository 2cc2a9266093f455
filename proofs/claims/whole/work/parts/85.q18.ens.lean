/-! ===== PURE: ensure and obtain, in both ===== -/
section SRG
variable {bi : Nat → Nat} {w : Nat → Nat × Nat} {C A B X : tS} {W V : Nat → Nat} {n s i : Nat} {me : Bool}
theorem up_c {o j x k v : Nat} (h : o ≠ 50) : up2 (up2 A 50 k v) o j x = up2 (up2 A o j x) 50 k v := by
  funext p q
  unfold up2
  by_cases c : p = o
  · have d : ¬ p = 50 := by omega
    simp only [if_pos c, if_neg d]
  · simp only [if_neg c]
theorem fl_c {a m k v : Nat} : fl 47 0 a m (up2 A 50 k v) = up2 (fl 47 0 a m A) 50 k v := by
  funext p q
  rw [fl_at]
  unfold up2
  by_cases c : p = 50
  · have d : ¬ (p = 47 ∧ a ≤ q ∧ q < a + m) := by omega
    simp only [if_pos c, if_neg d, fl_at]
  · simp only [if_neg c, fl_at]
theorem get_50 {k v r : Nat} : getA (up2 A 50 k v) r me = up2 (getA A r me) 50 k v := by
  unfold getA
  rw [up2_o (show (35 : Nat) ≠ 50 by decide), up2_o (show (35 : Nat) ≠ 50 by decide)]
  cases me with
  | true => rw [cond_true, cond_true, up_c (by decide), up_c (by decide), up_c (by decide), up_c (by decide), up_c (by decide), fl_c, up_c (by decide)]
  | false => rw [cond_false, cond_false, up_c (by decide), up_c (by decide), up_c (by decide), up_c (by decide), fl_c, up_c (by decide)]
theorem ff_50 {k v : Nat} : ff (up2 A 50 k v) = ff A := by
  unfold ff frA
  rw [up2_rown (show (36 : Nat) ≠ 50 by decide), up2_rown (show (49 : Nat) ≠ 50 by decide), up2_o (show (35 : Nat) ≠ 50 by decide)]
theorem attN_50 {k v n' x : Nat} : attN (up2 A 50 k v) n' x me = up2 (attN A n' x me) 50 k v := by
  unfold attN setN
  rw [ff_50, get_50, up_c (by decide), up_c (by decide)]
theorem attP_50 {k v d x : Nat} : attP (up2 A 50 k v) d x me = up2 (attP A d x me) 50 k v := by
  unfold attP setP
  rw [ff_50, get_50, up_c (by decide), up_c (by decide), up2_o (show (35 : Nat) ≠ 50 by decide)]
theorem nd_50 {k v n' x : Nat} : nd (up2 A 50 k v) n' x = nd A n' x := by unfold nd; rw [up2_o (by decide)]
theorem lf_50 {k v n' x : Nat} : leafA (up2 A 50 k v) n' x = leafA A n' x := by
  unfold leafA pt nd
  rw [up2_rown (show (36 : Nat) ≠ 50 by decide)]
/-- ensure, its mark of change last -/
theorem ens_50 : ensA A n i = if hasA A n i ≠ 0 then A else up2 (ens4 (ens3 (ens2 (ens1 A n i) n i) n i) n i) 50 n 1 := by
  unfold ensA
  by_cases c : hasA A n i ≠ 0
  · rw [if_pos c, if_pos c]
  · rw [if_neg c, if_neg c]
    have e1 : ∀ B, ens1 (up2 B 50 n 1) n i = up2 (ens1 B n i) 50 n 1 := fun B => by
      unfold ens1
      rw [nd_50, attN_50]
      split <;> rfl
    have e2 : ∀ B, ens2 (up2 B 50 n 1) n i = up2 (ens2 B n i) 50 n 1 := fun B => by
      unfold ens2
      rw [nd_50, attN_50]
      split <;> rfl
    have e3 : ∀ B, ens3 (up2 B 50 n 1) n i = up2 (ens3 B n i) 50 n 1 := fun B => by
      unfold ens3
      rw [lf_50, nd_50, attP_50]
      split <;> rfl
    have e4 : ∀ B, ens4 (up2 B 50 n 1) n i = up2 (ens4 B n i) 50 n 1 := fun B => by
      unfold ens4
      rw [lf_50, nd_50, attN_50, attP_50]
      split <;> rfl
    rw [e1, e2, e3, e4]
theorem att_r (hn : n < 64) (hs : rs s = true) : attN A n (ro s) me = atA A n s me := by
  unfold attN setN atA
  have e : nbA A (tcC A n s) = 2 + n / 2 := by
    unfold nbA tcC
    rw [if_pos hs, if_pos (by omega)]
  rw [lc_r hs, e]
theorem att_n (hs : rs s = false) {d k : Nat} (h1 : d = slo A n (pa s) - 1) (h2 : k = kx s) : attP A d k me = atA A n s me := by
  unfold attP setP atA
  have e : nbA A (tcC A n s) = 34 + A 35 6 + d := by
    have e0 : tcC A n s = 34 + (slo A n (pa s) - 1) := by unfold tcC; rw [hs]; rfl
    unfold nbA
    rw [e0, if_neg (by omega), h1]
    omega
  rw [lc_n hs, e, h1, h2, gA_rows.2.2.2.2.1, if_neg (by decide)]
theorem atC_r (hs : rs s = true) : snC (gtC C n me) n (ro s - 84) (gpV C) = atC C A n s me := by
  unfold snC atC tcC
  rw [lw_r hs, if_pos hs]
theorem atC_n (hs : rs s = false) {c k : Nat} (h1 : c = 34 + (slo A n (pa s) - 1)) (h2 : k = kx s) (h7 : c < C 10 7) : swoC (gtC C n me) c k (gpV C) = atC C A n s me := by
  unfold swoC atC tcC
  rw [if_pos ⟨by omega, by rw [gt_10.2.2]; exact h7⟩, lw_n hs, hs, if_neg (by decide), h1, h2]
/-- what a new block leaves of the old -/
def Ext (bi bi' : Nat → Nat) (w w' : Nat → Nat × Nat) (A B : tS) : Prop := (∀ x, bi x ≠ 0 → bi' x = bi x) ∧ (∀ r, r < 2000 → us A r → w' r = w r ∧ us B r ∧ se B r = se A r) ∧ (∀ n' j, n' < 64 → j < 85 → nd B n' j = nd A n' j)
theorem Ext_r : Ext bi bi w w A A := ⟨fun _ _ => rfl, fun _ _ h => ⟨rfl, h, rfl⟩, fun _ _ _ _ => rfl⟩
theorem Ext_t {bi' bi2 : Nat → Nat} {w' w2 : Nat → Nat × Nat} (h1 : Ext bi bi' w w' A B) (h2 : Ext bi' bi2 w' w2 B X) : Ext bi bi2 w w2 A X := by
  obtain ⟨a1, a2, a3⟩ := h1
  obtain ⟨b1, b2, b3⟩ := h2
  refine ⟨fun x hx => ?_, fun r hr hur => ?_, fun n' j p q => by rw [b3 n' j p q, a3 n' j p q]⟩
  · rw [b1 x (by rw [a1 x hx]; exact hx), a1 x hx]
  · obtain ⟨c1, c2, c3⟩ := a2 r hr hur
    obtain ⟨d1, d2, d3⟩ := b2 r hr c2
    exact ⟨by rw [d1, c1], d2, by rw [d3, c3]⟩
/-- one attachment, with all that follows -/
theorem at_all (h : SR bi w C A) (hme : (2000 ≤ s ∨ nd A n 0 = 2) → me = true) (hn : n < 64) (hkd : nd A n 0 = 1 ∨ nd A n 0 = 2) (hv : vs s) (hp : rs s = false → slo A n (pa s) ≠ 0) (h0 : slo A n s = 0) (hf : 0 < fre A) (h34 : A 35 34 + 1 < 1000000) :
    ∃ bi' w', SR bi' w' (atC C A n s me) (atA A n s me) ∧ Ext bi bi' w w' A (atA A n s me) ∧ (∀ n' s', n' < 64 → vs s' → slo (atA A n s me) n' s' = if n' = n ∧ s' = s then ff A + 1 else slo A n' s') ∧ fre (atA A n s me) + 1 = fre A ∧ atA A n s me 35 34 = A 35 34 + 1 ∧ (∀ q, q ≠ 34 → atA A n s me 35 q = A 35 q) ∧ atC C A n s me 10 15 = C 10 15 + 1 := by
  obtain ⟨S, S2, S3, S4⟩ := SR_at (me := me) h hme hn hkd hv hp h0 hf h34
  have a35 : ∀ q, atA A n s me 35 q = if q = 34 then A 35 34 + 1 else A 35 q := fun q => by
    unfold atA
    rw [up2_o (by decide), up2_o (by decide), gA_rows.2.2.2.2.1]
  have c10 : ∀ q, q ≠ 11 → atC C A n s me 10 q = gtC C n me 10 q := fun q hq => by
    unfold atC
    rw [tou_10 hq, up2_o (by decide)]
  refine ⟨_, _, S, ⟨fun x hx => ?_, fun r hr hur => ?_, S3⟩, S2, ?_, by rw [a35, if_pos rfl], fun q hq => by rw [a35, if_neg hq], by rw [c10 15 (by decide), gt_10.2.1]⟩
  · unfold upN
    rw [if_neg]
    intro e
    rw [e] at hx
    exact hx (h.bj.2.1 _ (by omega))
  · have hB : ptB A (atA A n s me) n s (ff A + 1) (ff A) 1 (A 35 34 + 1) := by
      intro j
      unfold atA
      rw [up2_o (by decide)]
      by_cases c : j = lcA A n s
      · rw [c, up2_s, if_pos rfl]
      · rw [up2_j c, if_neg c, gA_rows.1 j]
    have ne : r ≠ ff A := by
      intro e
      have q := sr_is (frA A) (A 35 7) 0 (by have := sr_cn (frA A) _ _ hf; exact this)
      have q : frA A (ff A) = true := q
      unfold frA at q
      simp at q
      rw [e] at hur
      exact hur q.1
    refine ⟨by unfold upW2; rw [if_neg ne], ?_, by rw [pf_se hB hn hv, if_neg ne]⟩
    unfold us
    rw [pf_us hB hn hv, if_neg ne]
    exact hur
  · have e1 := fre_c h.rk.2.1 h.zm
    have e2 := fre_c S.rk.2.1 S.zm
    rw [c10 9 (by decide), gt_10.1] at e2
    omega
end SRG
