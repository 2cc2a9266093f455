/-! ===== PURE: drop, in both: SR stays ===== -/
section SRI
variable {bi : Nat → Nat} {w : Nat → Nat × Nat} {C A B X : tS} {W V : Nat → Nat} {n s i : Nat} {me : Bool}
/-- what a freed block leaves of the old -/
def Les (C X A B : tS) : Prop := (∀ q, B 35 q = A 35 q) ∧ X 10 15 = C 10 15 ∧ fre B = fre A ∧ (∀ n' j, n' < 64 → j < 85 → nd B n' j = nd A n' j) ∧ (∀ r k i, k < 8 → i < 30 → eZ B r k i = eZ A r k i) ∧ (∀ r, us B r → us A r) ∧ (∀ r, se B r = se A r)
theorem Les_r : Les C C A A := ⟨fun _ => rfl, rfl, rfl, fun _ _ _ _ => rfl, fun _ _ _ _ _ => rfl, fun _ h => h, fun _ => rfl⟩
theorem Les_t {D E : tS} (h1 : Les C X A B) (h2 : Les X E B D) : Les C E A D := by
  obtain ⟨a1, a2, a3, a4, a5, a6, a7⟩ := h1
  obtain ⟨b1, b2, b3, b4, b5, b6, b7⟩ := h2
  exact ⟨fun q => by rw [b1, a1], by rw [b2, a2], by rw [b3, a3], fun n' j p q => by rw [b4 n' j p q, a4 n' j p q], fun r k i p q => by rw [b5 r k i p q, a5 r k i p q], fun r h => a6 r (b6 r h), fun r => by rw [b7, a7]⟩
theorem de_all {r0 : Nat} (h : SR bi w C A) (hn : n < 64) (hv : vs s) (h0 : slo A n s = r0 + 1) (hz : ∀ k, k < 32 → pt A r0 k = 0) (he : ∀ k, k < 8 → eZ A r0 k 0 = 64) :
    SR bi w (deCt C A n s me) (deAt A n s me) ∧ (∀ n' s', n' < 64 → vs s' → slo (deAt A n s me) n' s' = if n' = n ∧ s' = s then 0 else slo A n' s') ∧ Les C (deCt C A n s me) A (deAt A n s me) := by
  obtain ⟨g1, g2, g3, g4, g5⟩ := SR_de (me := me) h hn hv h0 hz he
  have hu := (h.ti.2.1 n s r0 hn hv h0).2.1
  have er : slo A n s - 1 = r0 := by omega
  have a35 : ∀ q, deAt A n s me 35 q = A 35 q := fun q => by
    unfold deAt
    rw [fA_rows.2.2.2.2.2 35 (by decide) (by decide) (by decide) (by decide) (by decide), up2_o (by decide), up2_o (by decide)]
  have l2 : ∀ j, deAt A n s me 36 j = if j = 6080 + r0 * 274 then 0 else if j = lcA A n s then 0 else A 36 j := fun j => by
    unfold deAt
    rw [er, fA_rows.1]
    by_cases c : j = 6080 + r0 * 274
    · rw [if_pos c, if_pos c]
    · rw [if_neg c, if_neg c, up2_o (by decide)]
      by_cases d : j = lcA A n s
      · rw [d, up2_s, if_pos rfl]
      · rw [up2_j d, if_neg d]
  have lcx : ∀ r, lcA A n s ≠ 6080 + r * 274 ∧ lcA A n s ≠ 6080 + r * 274 + 1 := fun r => by
    rcases lc_f (A := A) hn hv with q | ⟨y, k, q, hk⟩
    · omega
    · omega
  refine ⟨g1, g2, a35, ?_, ?_, g3, g5, fun r q => ?_, fun r => ?_⟩
  · unfold deCt
    rw [rel_10 (by decide) (by decide) (by decide) (by decide), tou_10 (by decide), up2_o (by decide)]
  · unfold fre
    rw [a35]
    refine cn_congr _ _ (fun r _ _ => ?_)
    unfold frA
    by_cases c : r = r0
    · have e1 : (A 36 (6080 + r * 274) == 0) = false := by
        rw [c]
        have : A 36 (6080 + r0 * 274) ≠ 0 := hu
        simp [this]
      have e2 : deAt A n s me 49 r = 1 := by
        unfold deAt
        rw [er, fA_rows.2.2.1, if_pos c]
      rw [e1, e2]
      simp
    · have e1 : deAt A n s me 36 (6080 + r * 274) = A 36 (6080 + r * 274) := by
        rw [l2, if_neg (by omega), if_neg (fun q => (lcx r).1 q.symm)]
      have e2 : deAt A n s me 49 r = A 49 r := by
        unfold deAt
        rw [er, fA_rows.2.2.1, if_neg c, up2_o (by decide), up2_o (by decide)]
      rw [e1, e2]
  · unfold us at q ⊢
    rw [l2] at q
    by_cases c : 6080 + r * 274 = 6080 + r0 * 274
    · rw [if_pos c] at q
      exact absurd rfl q
    · rw [if_neg c, if_neg (fun z => (lcx r).1 z.symm)] at q
      exact q
  · unfold se
    rw [l2, if_neg (by omega), if_neg (fun z => (lcx r).2 z.symm)]
/-- a table is empty -/
theorem emp_iff {r : Nat} : empA A r = true ↔ ∀ k, k < 32 → pt A r k = 0 := by
  unfold empA
  rw [decide_eq_true_iff]
  constructor
  · intro h k hk
    have := sr_no (fun k => pt A r k != 0) 32 0 k (Nat.zero_le _) (by omega)
    simpa using this
  · intro h
    have a := sr_le (fun k => pt A r k != 0) 32 0
    by_cases c : sr (fun k => pt A r k != 0) 0 32 < 0 + 32
    · have b := sr_is (fun k => pt A r k != 0) 32 0 c
      have := h _ (by omega)
      simp [this] at b
    · omega
/-- both find a table empty, or not -/
theorem emp_c (h : SR bi w C A) {r : Nat} (hr : r < 2000) (hu : us A r) (h2 : 2000 ≤ (w r).2) : zfC C (34 + r) 0 = true ↔ empA A r = true := by
  have rlt := (h.ti.1 r hr hu).1
  have bw := (h.mr.2.2.2 r hr hu).1 h2
  have c7 : 34 + r < C 10 7 := by rw [h.zm.1.1]; omega
  rw [emp_iff, zf_iff]
  constructor
  · intro q k hk
    have by_ : ∀ j, j < 8 → by8 (pv bi A (pt A r k)) j = 0 := fun j hj => by
      have := q (k * 8 + j) (by omega) (Nat.zero_le _)
      rw [oc_o c7] at this
      unfold oW at this
      rwa [show (34 + r) * 32 + (k * 8 + j) / 8 = (34 + r) * 32 + k by omega, show (k * 8 + j) % 8 = j by omega, bw k hk] at this
    have e0 : pv bi A (pt A r k) / 1 % 256 = 0 := by_ 0 (by omega)
    have e1 : pv bi A (pt A r k) / 256 % 256 = 0 := by_ 1 (by omega)
    have m := pv_mod (bi := bi) (A := A) (pt_le h.ok r hk)
    by_cases c : pt A r k = 0
    · exact c
    · rw [if_neg c] at m
      omega
  · intro q j hj _
    rw [oc_o c7]
    refine oW_0 ?_
    rw [bw (j / 8) (by omega), q (j / 8) (by omega)]
    rfl
end SRI
