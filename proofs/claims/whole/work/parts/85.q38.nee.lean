/-! ===== PURE: how many blocks are needed, in both ===== -/
/-- what a count knows at an index -/
def neI (A : tS) (n fr i ll : Nat) (s t : Bool) : Prop := (i ≤ 40 → (s = true ↔ nd A n 93 ≠ 0 ∨ (fr < i ∧ 8 < i))) ∧ (t = true ↔ nd A n 94 ≠ 0 ∨ (fr < i ∧ 40 < i)) ∧ (fr < i → 40 < i → (i - 40) % 32 ≠ 0 → leafA A n i = 0 → ll = (i - 40) / 32 + 1) ∧ (i = fr ∨ i ≤ 40 ∨ (i - 40) % 32 = 0 → ll ≤ (i - 40) / 32) ∧ ll ≤ (i - 40) / 32 + 1
section SRCC
variable {bi : Nat → Nat} {w : Nat → Nat × Nat} {C A : tS} {n fr i ll : Nat} {s t : Bool}
theorem lf_has (z : 8 ≤ i) (y : leafA A n i = 0) : hasA A n i = 0 := by
  unfold hasA
  rw [if_neg (show ¬ i < 8 by omega), if_pos y]
theorem lf_93 (z : i < 40) : leafA A n i = nd A n 93 := by
  unfold leafA
  rw [if_pos z]
theorem lf_94 (z : 40 ≤ i) (y : nd A n 94 = 0) : leafA A n i = 0 := by
  unfold leafA
  rw [if_neg (show ¬ i < 40 by omega), if_pos y]
theorem lf_nx (z : 40 ≤ i) (y : (i + 1 - 40) % 32 ≠ 0) : leafA A n (i + 1) = leafA A n i := by
  unfold leafA
  rw [if_neg (show ¬ i + 1 < 40 by omega), if_neg (show ¬ i < 40 by omega), show (i + 1 - 40) / 32 = (i - 40) / 32 by omega]
theorem ne_a (h : neI A n fr i ll s t) (hf : fr ≤ i) (hi : i < 8) : neI A n fr (i + 1) ll s t := by
  obtain ⟨h1, h2, h3, h4, h5⟩ := h
  refine ⟨fun _ => ?_, ?_, fun _ y => by omega, fun _ => ?_, ?_⟩
  · rw [h1 (by omega)]
    exact or_congr_right (by omega)
  · rw [h2]
    exact or_congr_right (by omega)
  · have := h4 (Or.inr (Or.inl (by omega)))
    omega
  · have := h4 (Or.inr (Or.inl (by omega)))
    omega
theorem ne_b (h : neI A n fr i ll s t) (hf : fr ≤ i) (h8 : 8 ≤ i) (hi : i < 40) : neI A n fr (i + 1) ll true t := by
  obtain ⟨h1, h2, h3, h4, h5⟩ := h
  refine ⟨fun _ => ⟨fun _ => Or.inr (by omega), fun _ => rfl⟩, ?_, fun _ y => by omega, fun _ => ?_, ?_⟩
  · rw [h2]
    exact or_congr_right (by omega)
  · have := h4 (Or.inr (Or.inl (by omega)))
    omega
  · have := h4 (Or.inr (Or.inl (by omega)))
    omega
theorem ne_c (hf : fr ≤ i) (hi : 40 ≤ i) : neI A n fr (i + 1) ((i - 40) / 32 + 1) s true :=
  ⟨fun y => by omega, ⟨fun _ => Or.inr (by omega), fun _ => rfl⟩, fun _ _ y _ => by omega, fun _ => by omega, by omega⟩
theorem ne_d (h : neI A n fr i ll s t) (hf : fr ≤ i) (hh : hasA A n i ≠ 0) : neI A n fr (i + 1) ll s t := by
  obtain ⟨h1, h2, h3, h4, h5⟩ := h
  have nl : 8 ≤ i → leafA A n i ≠ 0 := fun z y => hh (lf_has z y)
  refine ⟨fun q => ?_, ?_, fun _ y1 y2 y3 => ?_, fun y => ?_, by omega⟩
  · rw [h1 (by omega)]
    constructor
    · rintro (u | u)
      · exact Or.inl u
      · exact Or.inr (by omega)
    · rintro (u | u)
      · exact Or.inl u
      · by_cases v : 8 ≤ i
        · have := nl v
          rw [lf_93 (by omega)] at this
          exact Or.inl this
        · omega
  · rw [h2]
    constructor
    · rintro (u | u)
      · exact Or.inl u
      · exact Or.inr (by omega)
    · rintro (u | u)
      · exact Or.inl u
      · have v : 40 ≤ i := by omega
        exact Or.inl (fun e => nl (by omega) (lf_94 v e))
  · rw [lf_nx (by omega) y2] at y3
    exact absurd y3 (nl (by omega))
  · by_cases v : i ≤ 40
    · have := h4 (Or.inr (Or.inl v))
      omega
    · by_cases u : i = fr ∨ (i - 40) % 32 = 0
      · have := h4 (by omega)
        omega
      · omega
theorem ne_e (h : neI A n fr i ll s t) (hf : fr ≤ i) (h8 : 8 ≤ i) (hi : i < 40) {T : Nat} (q : T = 0 ↔ leafA A n i = 0) : (if 8 ≤ i ∧ (i = fr ∨ (i - 8) % 32 = 0) ∧ T = 0 then 1 else 0) + 1 = (if s = true then 1 else 2) := by
  have hs := h.1 (by omega)
  rw [lf_93 hi] at q
  by_cases f : 8 ≤ i ∧ (i = fr ∨ (i - 8) % 32 = 0) ∧ T = 0
  · have sf : ¬ s = true := fun y => by
      rcases hs.mp y with y | y
      · exact y (q.mp f.2.2)
      · omega
    rw [if_pos f, if_neg sf]
  · have sf : s = true := by
      refine hs.mpr ?_
      by_cases y : nd A n 93 = 0
      · refine Or.inr ?_
        have : ¬ (i = fr ∨ (i - 8) % 32 = 0) := fun z => f ⟨by omega, z, q.mpr y⟩
        omega
      · exact Or.inl y
    rw [if_neg f, if_pos sf]
theorem ne_f (h : neI A n fr i ll s t) (hf : fr ≤ i) (h8 : 40 ≤ i) {T : Nat} (q : T = 0 ↔ leafA A n i = 0) : (if 8 ≤ i ∧ (i = fr ∨ (i - 8) % 32 = 0) ∧ T = 0 then 1 else 0) = (if leafA A n i = 0 ∧ (i - 40) / 32 + 1 ≠ ll then 1 else 0) := by
  by_cases y : leafA A n i = 0
  · by_cases z : i = fr ∨ (i - 8) % 32 = 0
    · have := h.2.2.2.1 (by omega)
      rw [if_pos (show 8 ≤ i ∧ (i = fr ∨ (i - 8) % 32 = 0) ∧ T = 0 from ⟨by omega, z, q.mpr y⟩), if_pos (show leafA A n i = 0 ∧ (i - 40) / 32 + 1 ≠ ll from ⟨y, by omega⟩)]
    · have := h.2.2.1 (by omega) (by omega) (by omega) y
      rw [if_neg (show ¬ (8 ≤ i ∧ (i = fr ∨ (i - 8) % 32 = 0) ∧ T = 0) from fun u => z u.2.1), if_neg (show ¬ (leafA A n i = 0 ∧ (i - 40) / 32 + 1 ≠ ll) from fun u => u.2 this.symm)]
  · rw [if_neg (show ¬ (8 ≤ i ∧ (i = fr ∨ (i - 8) % 32 = 0) ∧ T = 0) from fun u => y (q.mp u.2.2)), if_neg (show ¬ (leafA A n i = 0 ∧ (i - 40) / 32 + 1 ≠ ll) from fun u => y u.1)]
theorem ne_g (h : neI A n fr i ll s t) (hf : fr ≤ i) (h8 : 40 ≤ i) {T : Nat} (q : T = 0 ↔ nd A n 94 = 0) : (if 40 ≤ i ∧ (i = fr ∨ i = 40) ∧ T = 0 then 1 else 0) + 1 = (if t = true then 1 else 2) := by
  have ht := h.2.1
  by_cases f : 40 ≤ i ∧ (i = fr ∨ i = 40) ∧ T = 0
  · have sf : ¬ t = true := fun y => by
      rcases ht.mp y with y | y
      · exact y (q.mp f.2.2)
      · omega
    rw [if_pos f, if_neg sf]
  · have sf : t = true := by
      refine ht.mpr ?_
      by_cases y : nd A n 94 = 0
      · refine Or.inr ?_
        have : ¬ (i = fr ∨ i = 40) := fun z => f ⟨by omega, z, q.mpr y⟩
        omega
      · exact Or.inl y
    rw [if_neg f, if_pos sf]
theorem ne_lp (h : SR bi w C A) (hn : n < 64) (h3 : nd A n 0 ≠ 3) : ∀ m i ll (s t : Bool), i + m ≤ 1064 → fr ≤ i → neI A n fr i ll s t → neL C n fr i m = ndL A n m i ll s t
  | 0, _, _, _, _, _, _, _ => rfl
  | m + 1, i, ll, s, t, hi, hf, hI => by
    obtain ⟨p1, p2, p3, p4⟩ := pt_c h.ok h.ti h.mr hn h3 (show i < 1064 by omega)
    have q1 : ptC C n i = 0 ↔ hasA A n i = 0 := by rw [p1]; exact pv_0
    have q2 : 8 ≤ i → (tbC C n i = 0 ↔ leafA A n i = 0) := fun z => by rw [p2 z]; exact pv_0
    have q4 : nwC C n 10 = 0 ↔ nd A n 94 = 0 := by rw [p4]; exact pv_0
    have IH := fun ll s t => ne_lp h hn h3 m (i + 1) ll s t (by omega) (show fr ≤ i + 1 by omega)
    show (if ptC C n i = 0 then 1 else 0) + (if 8 ≤ i ∧ (i = fr ∨ (i - 8) % 32 = 0) ∧ tbC C n i = 0 then 1 else 0) + (if 40 ≤ i ∧ (i = fr ∨ i = 40) ∧ nwC C n 10 = 0 then 1 else 0) + neL C n fr (i + 1) m = (if hasA A n i ≠ 0 then ndL A n m (i + 1) ll s t else if i < 8 then 1 + ndL A n m (i + 1) ll s t else if i < 40 then (if s then 1 else 2) + ndL A n m (i + 1) ll true t else ((if t then 1 else 2) + (if leafA A n i = 0 ∧ (i - 40) / 32 + 1 ≠ ll then 1 else 0)) + ndL A n m (i + 1) ((i - 40) / 32 + 1) s true)
    by_cases c : hasA A n i = 0
    · rw [if_pos (q1.mpr c), if_neg (show ¬ hasA A n i ≠ 0 from fun z => z c)]
      by_cases d : i < 8
      · rw [if_neg (show ¬ (8 ≤ i ∧ (i = fr ∨ (i - 8) % 32 = 0) ∧ tbC C n i = 0) from fun z => by omega), if_neg (show ¬ (40 ≤ i ∧ (i = fr ∨ i = 40) ∧ nwC C n 10 = 0) from fun z => by omega), if_pos d, IH ll s t (ne_a hI hf d)]
      · rw [if_neg d]
        by_cases e : i < 40
        · rw [if_pos e, if_neg (show ¬ (40 ≤ i ∧ (i = fr ∨ i = 40) ∧ nwC C n 10 = 0) from fun z => by omega), IH ll true t (ne_b hI hf (by omega) e), ← ne_e hI hf (by omega) e (q2 (by omega))]
          omega
        · rw [if_neg e, IH _ s true (ne_c hf (by omega)), ← ne_f hI hf (by omega) (q2 (by omega)), ← ne_g hI hf (by omega) q4]
          omega
    · have nl : 8 ≤ i → leafA A n i ≠ 0 := fun z y => c (lf_has z y)
      rw [if_neg (show ¬ ptC C n i = 0 from fun z => c (q1.mp z)), if_pos c, if_neg (show ¬ (8 ≤ i ∧ (i = fr ∨ (i - 8) % 32 = 0) ∧ tbC C n i = 0) from fun z => nl z.1 ((q2 z.1).mp z.2.2)), if_neg (show ¬ (40 ≤ i ∧ (i = fr ∨ i = 40) ∧ nwC C n 10 = 0) from fun z => nl (by omega) (lf_94 z.1 (q4.mp z.2.2))), IH ll s t (ne_d hI hf c)]
      omega
/-- what is needed is the same -/
theorem ne_eq (h : SR bi w C A) (hn : n < 64) (h3 : nd A n 0 ≠ 3) {to : Nat} (ht : to < 1064) (hf : fr ≤ to) : neL C n fr fr (to + 1 - fr) = nee A n fr to := by
  refine ne_lp h hn h3 _ fr 0 _ _ (by omega) (by omega) ⟨fun _ => ?_, ?_, fun y => by omega, fun _ => by omega, by omega⟩
  · constructor
    · intro q
      exact Or.inl (by simpa using q)
    · rintro (q | q)
      · simpa using q
      · omega
  · constructor
    · intro q
      exact Or.inl (by simpa using q)
    · rintro (q | q)
      · simpa using q
      · omega
end SRCC
