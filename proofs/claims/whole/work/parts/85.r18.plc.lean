/-! ===== PURE: room for an entry, a node for it, in both ===== -/
section PLC
variable {b0 fu : Nat} {σ τ : tM} {bi sp : Nat → Nat} {w : Nat → Nat × Nat} {C C' X : tS} {D D' : tD} {A B : tS} {K n m k r t d l v many : Nat}
theorem nmL_cg {nm nm' : Nat → Nat} : ∀ m i (A : tS), (∀ j, i ≤ j → j < i + m → nm j = nm' j) → nmL d k nm m i A = nmL d k nm' m i A
  | 0, _, _, _ => rfl
  | m + 1, i, A, h => by
    show nmL d k nm m (i + 1) (up2 A 36 (ex A d k (2 + i)) (nm i)) = nmL d k nm' m (i + 1) (up2 A 36 (ex A d k (2 + i)) (nm' i))
    rw [h i (Nat.le_refl _) (by omega)]
    exact nmL_cg m (i + 1) _ (fun j a b => h j (by omega) (by omega))
theorem addA_cg {nm nm' : Nat → Nat} (h : ∀ j, j < many → nm j = nm' j) : addA A d nm many n = addA A d nm' many n := by
  unfold addA add2
  rw [nmL_cg many 0 _ (fun j _ b => h j (by omega))]
theorem nee_0 (h : hasA A n k ≠ 0) : nee A n k k = 0 := by
  unfold nee
  rw [show k + 1 - k = 1 by omega]
  unfold ndL
  rw [if_pos h]
  rfl
/-- room for an entry -/
theorem lk_eq (S : SR bi w C A) (P : PH t w A) (ht : t < 1000) (hd : d < 64) (h2 : nd A d 0 = 2) : pfE C d = ffA A d ∧ alE C d = eAll A d ∧ neL C d (pfE C d / 8) (pfE C d / 8) 1 = nee A d (ffA A d / 8) (ffA A d / 8) ∧ decide (neL C d (pfE C d / 8) (pfE C d / 8) 1 ≤ C 10 9) = !lkA A d := by
  obtain ⟨ea, ep⟩ := pf_eq (VW_of S P.di) hd h2 (fun k a b => (P.di.2.1 d k hd h2 a b).2)
  obtain ⟨t1, t2⟩ := ff_t P hd h2 ht
  have ne := ne_eq (fr := ffA A d / 8) (to := ffA A d / 8) S hd (by omega) (by omega) (Nat.le_refl _)
  rw [show ffA A d / 8 + 1 - ffA A d / 8 = 1 by omega] at ne
  have f9 := fre_c S.rk.2.1 S.zm
  rw [ep, ne, f9]
  refine ⟨rfl, ea, rfl, ?_⟩
  unfold lkA
  by_cases c : ffA A d = eAll A d
  · by_cases c2 : fre A < nee A d (ffA A d / 8) (ffA A d / 8)
    · rw [decide_eq_true (show ffA A d = eAll A d ∧ fre A < nee A d (ffA A d / 8) (ffA A d / 8) from ⟨c, c2⟩), decide_eq_false (show ¬ nee A d (ffA A d / 8) (ffA A d / 8) ≤ fre A by omega)]
      rfl
    · rw [decide_eq_false (show ¬ (ffA A d = eAll A d ∧ fre A < nee A d (ffA A d / 8) (ffA A d / 8)) from fun q => c2 q.2), decide_eq_true (show nee A d (ffA A d / 8) (ffA A d / 8) ≤ fre A by omega)]
      rfl
  · have le := ff_le (A := A) (d := d)
    have hh := (P.di.1 d hd h2).2.2 (ffA A d / 8) (by unfold eAll at le c; omega)
    rw [nee_0 hh, decide_eq_false (show ¬ (ffA A d = eAll A d ∧ fre A < 0) from fun q => c q.1), decide_eq_true (show 0 ≤ fre A from Nat.zero_le _)]
    rfl
theorem mk_eq (S : SR bi w C A) : sr (fun n => kiC C n == 0) 0 64 = mkN A := by
  unfold mkN
  exact sr_cong _ _ (fun n _ hn => by rw [(hd_c S.ok S.mr (show n < 64 by omega)).1])
theorem mk_lt (h : mkN A < 64) : nd A (mkN A) 0 = 0 := by
  have := sr_is (fun n => nd A n 0 == 0) 64 0 (by unfold mkN at h; omega)
  have u : nd A (sr (fun n => nd A n 0 == 0) 0 64) 0 = 0 := by simpa using this
  exact u
/-- blocks that are wanted are there -/
theorem ob_lk (S : SR bi w C A) (P : PH t w A) (ht : t < 1000) (hd : d < 64) (h2 : nd A d 0 = 2) (hl : lkA A d = false) : ffA A d = eAll A d → obN C d (ffA A d / 8) ≤ fre A := by
  intro c
  obtain ⟨e1, e2, e3, e4⟩ := lk_eq S P ht hd h2
  obtain ⟨t1, t2⟩ := ff_t P hd h2 ht
  have z1 := (P.di.1 d hd h2).1
  have h0 : hasA A d (ffA A d / 8) = 0 := P.di.2.2.2.1 d hd (Or.inr h2) _ (by omega) (by unfold eAll at c; omega)
  have ob := ob_ne S hd (by omega) (show ffA A d / 8 < 1064 by omega) h0
  rw [e1] at e3
  rw [e3] at ob
  unfold lkA at hl
  have := of_decide_eq_false hl
  have : ¬ fre A < nee A d (ffA A d / 8) (ffA A d / 8) := fun q => this ⟨c, q⟩
  omega
end PLC
