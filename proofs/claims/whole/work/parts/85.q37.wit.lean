/-! ===== PURE: whether a directory lies within another, in both ===== -/
section SRBB
variable {bi : Nat → Nat} {w : Nat → Nat × Nat} {C A : tS} {n : Nat}
theorem pr_lt (h : SR bi w C A) (hn : n < 64) : prC C n < 64 := by
  by_cases c : nd A n 0 = 0
  · have := (h.mr.2.2.1 n hn).1
    rw [if_pos c] at this
    have e : nwC C n 0 = 0 := this
    unfold prC
    rw [e]
    decide
  · rw [((hd_c h.ok h.mr hn).2 c).2.1]
    exact (nd_k h.ok hn).2.2.2.1
theorem iw_eq {a : Nat} (h : SR bi w C A) (hD : DI w A) : ∀ f d, d < 64 → nd A d 0 = 2 → iwC C a (f + 1) d = bwA A a f d
  | 0, d, _, _ => by
    show (if d = a then true else if d = 0 then false else false) = (d == a)
    by_cases c : d = a
    · rw [if_pos c, c]
      exact (beq_self_eq_true a).symm
    · rw [if_neg c]
      have : (d == a) = false := by simp [c]
      rw [this]
      split <;> rfl
  | f + 1, d, hd, hk => by
    show (if d = a then true else if d = 0 then false else iwC C a (f + 1) (prC C d)) = (if d = a then true else if d = 0 then false else bwA A a f (nd A d 3))
    have e := ((hd_c h.ok h.mr hd).2 (by omega)).2.1
    rw [e, iw_eq h hD f (nd A d 3) (nd_k h.ok hd).2.2.2.1 (hD.1 d hd hk).2.1]
end SRBB
