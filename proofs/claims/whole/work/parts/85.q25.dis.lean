/-! ===== PURE: a node discarded, a node set up, in both ===== -/
section SRO
variable {bi : Nat → Nat} {w : Nat → Nat × Nat} {C A B X : tS} {W V : Nat → Nat} {n s i : Nat} {me : Bool}
/-- a node without blocks has no tables -/
theorem no_b (t : TF A) (hn : n < 64) (h : ∀ i, i < 1064 → hasA A n i = 0) : ∀ i, i < 10 → nd A n (85 + i) = 0 := by
  have s0 : ∀ s, vs s → s < 1064 → slo A n s = 0 := fun s _ hs => by rw [hs_slo hs]; exact h s hs
  have t1 : ∀ s, vs s → 2000 ≤ s → s ≠ 2001 → slo A n s = 0 := by
    intro s hv h2 h3
    refine Classical.byContradiction (fun q => ?_)
    obtain ⟨k, k1, k2⟩ := t n s hn hv h2 q
    refine k2 (s0 _ (chS_ok hv h2 k1).1 ?_)
    unfold vs at hv
    unfold chS
    by_cases c : s = 2000
    · rw [if_pos c]; omega
    · rw [if_neg c, if_neg h3]; omega
  have t2 : slo A n 2001 = 0 := by
    refine Classical.byContradiction (fun q => ?_)
    have v1 : vs 2001 := by unfold vs; omega
    obtain ⟨k, k1, k2⟩ := t n 2001 hn v1 (by omega) q
    have := chS_ok v1 (by omega) k1
    have e : chS 2001 k = 2100 + k := by unfold chS; rw [if_neg (by decide), if_pos rfl]
    rw [e] at k2 this
    exact k2 (t1 _ this.1 (by omega) (by omega))
  intro i hi
  by_cases c : i < 8
  · have := h i (by omega)
    unfold hasA at this
    rwa [if_pos c] at this
  · by_cases c2 : i = 8
    · rw [c2]
      exact t1 2000 (by unfold vs; omega) (by omega) (by omega)
    · rw [show i = 9 by omega]
      exact t2
theorem ds_rows (hn : n < 64) : ∀ m k (C : tS), ci C → (∀ q, dsN n k m C 11 q = if 64 + n * 16 + k ≤ q ∧ q < 64 + n * 16 + k + m then 0 else C 11 q) ∧ (∀ j, dsN n k m C 15 j = 0 ↔ (m ≠ 0 → j ≠ 2 + n / 2) ∧ C 15 j = 0) ∧ (∀ p, p ≠ 10 → p ≠ 11 → p ≠ 15 → dsN n k m C p = C p) ∧ (∀ q, q ≠ 11 → dsN n k m C 10 q = C 10 q) ∧ ci (dsN n k m C)
  | 0, k, C, h => ⟨fun q => by rw [if_neg (by omega)]; rfl, fun j => ⟨fun q => ⟨fun y => absurd rfl y, q⟩, fun q => q.2⟩, fun _ _ _ _ => rfl, fun _ _ => rfl, h⟩
  | m + 1, k, C, h => by
    have hc : ci (snC C n k 0) := ci_tou (ci_11 h)
    obtain ⟨i1, i2, i3, i4, i5⟩ := ds_rows hn m (k + 1) (snC C n k 0) hc
    refine ⟨fun q => ?_, fun j => ?_, fun p p0 p1 p2 => ?_, fun q hq => ?_, i5⟩
    · show dsN n (k + 1) m (snC C n k 0) 11 q = _
      rw [i1, sn_11]
      by_cases c : q = 64 + n * 16 + k
      · rw [if_neg (by omega), if_pos c, if_pos (by omega)]
      · by_cases d : 64 + n * 16 + (k + 1) ≤ q ∧ q < 64 + n * 16 + (k + 1) + m
        · rw [if_pos d, if_pos (by omega)]
        · rw [if_neg d, if_neg c, if_neg (by omega)]
    · show dsN n (k + 1) m (snC C n k 0) 15 j = 0 ↔ _
      have e : snC C n k 0 15 j = 0 ↔ j ≠ 2 + n / 2 ∧ C 15 j = 0 := by
        unfold snC
        rw [tou_15 (by omega) (by rw [up2_o (by decide)]; have := h.1.1; omega), up2_o (by decide)]
      rw [i2, e]
      exact ⟨fun q => ⟨fun _ => q.2.1, q.2.2⟩, fun q => ⟨fun _ => q.1 (by omega), q.1 (by omega), q.2⟩⟩
    · show dsN n (k + 1) m (snC C n k 0) p = _
      rw [i3 p p0 p1 p2]
      unfold snC
      rw [tou_o p0 p2, up2_rown p1]
    · show dsN n (k + 1) m (snC C n k 0) 10 q = _
      rw [i4 q hq, sn_10 hq]
theorem set0_r {v : Nat} : (∀ j, setN A n 0 v 36 j = if j = n * 95 then v else A 36 j) ∧ (∀ b, setN A n 0 v 51 b = 0 ↔ b ≠ 2 + n / 2 ∧ A 51 b = 0) ∧ (∀ p, p ≠ 36 → p ≠ 51 → setN A n 0 v p = A p) := by
  refine ⟨fun j => ?_, fun b => ?_, fun p p0 p1 => ?_⟩
  · unfold setN
    rw [up2_o (by decide)]
    by_cases c : j = n * 95
    · rw [if_pos c, c]
      exact up2_s _ _ _ _
    · rw [if_neg c, up2_j (by omega)]
  · unfold setN
    by_cases c : b = 2 + n / 2
    · rw [c, up2_s]
      exact ⟨fun q => by omega, fun q => absurd rfl q.1⟩
    · rw [up2_j c, up2_o (by decide)]
      exact ⟨fun q => ⟨c, q⟩, fun q => q.2⟩
  · unfold setN
    rw [up2_rown p1, up2_rown p0]
/-- a node without blocks becomes unused -/
theorem SR_un (h : SR bi w C A) (hn : n < 64) (hz : ∀ i, i < 10 → nd A n (85 + i) = 0) : SR bi w (dsN n 0 16 C) (setN A n 0 0) := by
  obtain ⟨d1, d2, d3, d4, d5⟩ := ds_rows hn 16 0 C h.rk.1
  obtain ⟨r1, r2, r3⟩ := set0_r (A := A) (n := n) (v := 0)
  have k0 : nd (setN A n 0 0) n 0 = 0 := by
    unfold nd
    rw [r1, if_pos (by omega)]
  have w0 : ∀ i, i < 16 → dsN n 0 16 C 11 (64 + n * 16 + i) = 0 := fun i hi => by rw [d1, if_pos (by omega)]
  refine SR_nod h hn (fun j hj => by rw [r1, if_neg (by omega)]) ⟨fun k => ?_, fun b => by rw [nb_n hn]; exact r2 b, d3, d4, r3, d5⟩ (fun q hq => by rw [d1, if_neg (by omega)]) (Or.inr hz) ⟨?_, fun c => by omega, fun c i hi => ?_, fun _ i hi => w0 i hi⟩ (fun j => ?_)
  · rw [d2]
    exact ⟨fun q => ⟨q.1 (by decide), q.2⟩, fun q => ⟨fun _ => q.1, q.2⟩⟩
  · rw [k0, if_pos rfl]
    exact w0 0 (by omega)
  · rw [w0 (1 + i) (by omega)]
    have : nd (setN A n 0 0) n (85 + i) = 0 := by
      unfold nd
      rw [r1, if_neg (by omega)]
      exact hz i hi
    rw [this]
    rfl
  · rw [r1]
    split
    · have := h.ok j
      omega
    · exact h.ok j
/-- discard -/
theorem SR_dis (h : SR bi w C A) (hn : n < 64) (ht : TF A) (hD : nd A n 0 = 1 → ∀ i, i < 1064 → nd A n 1 ≤ 256 * i → hasA A n i = 0) (hz : nd A n 0 ≠ 1 → ∀ i, i < 10 → nd A n (85 + i) = 0) : SR bi w (disC C n) (setN (if nd A n 0 = 1 then szA A n 0 else A) n 0 0) := by
  unfold disC
  rw [(hd_c h.ok h.mr hn).1]
  by_cases c : nd A n 0 = 1
  · rw [if_pos c, if_pos c]
    obtain ⟨g1, g2, g3, g4, -⟩ := SR_sz (sz := 0) h hn c (by omega) (hD c)
    exact SR_un g1 hn (no_b (g4 ht) hn (fun i hi => g3 i hi (by omega)))
  · rw [if_neg c, if_neg c]
    exact SR_un h hn (hz c)
/-- set up: a file or a directory -/
theorem SR_set {k d : Nat} (h : SR bi w C A) (hn : n < 64) (h0 : nd A n 0 = 0) (hk : k = 1 ∨ k = 2) (hd : d < 64) : SR bi w (suC C n k d) (mk4 A n d k) := by
  have hz := h.ti.2.2.1 n hn (by omega) (by omega)
  obtain ⟨-, -, a3, a4⟩ := h.mr.2.2.1 n hn
  have w0 := a4 h0
  unfold suC mk4
  refine SR_chg (v := 0) (v' := 0) ?_ ⟨fun _ => rfl, fun _ => rfl⟩
  generalize hB : setN (setN (setN (setN A n 0 k) n 1 0) n 2 (if k = 2 then 0 else 1)) n 3 (if k = 2 then d else 0) = B
  have b36 : ∀ j, B 36 j = if j = n * 95 + 3 then (if k = 2 then d else 0) else if j = n * 95 + 2 then (if k = 2 then 0 else 1) else if j = n * 95 + 1 then 0 else if j = n * 95 + 0 then k else A 36 j := fun j => by
    have e : ∀ (Y : tS) x v, setN Y n x v 36 j = if j = n * 95 + x then v else Y 36 j := fun Y x v => by
      unfold setN
      rw [up2_o (by decide)]
      by_cases c : j = n * 95 + x
      · rw [if_pos c, c, up2_s]
      · rw [if_neg c, up2_j c]
    rw [← hB, e, e, e, e]
  have bo : ∀ p, p ≠ 36 → p ≠ 51 → B p = A p := fun p p0 p1 => by
    rw [← hB]
    unfold setN
    rw [up2_rown p1, up2_rown p0, up2_rown p1, up2_rown p0, up2_rown p1, up2_rown p0, up2_rown p1, up2_rown p0]
  have b51 : ∀ b, B 51 b = 0 ↔ b ≠ 2 + n / 2 ∧ A 51 b = 0 := fun b => by
    rw [← hB]
    unfold setN
    by_cases c : b = 2 + n / 2
    · rw [c, up2_s]
      exact ⟨fun q => by omega, fun q => absurd rfl q.1⟩
    · rw [up2_j c, up2_o (by decide), up2_j c, up2_o (by decide), up2_j c, up2_o (by decide), up2_j c, up2_o (by decide)]
      exact ⟨fun q => ⟨c, q⟩, fun q => q.2⟩
  have n0 : nd B n 0 = k := by unfold nd; rw [b36, if_neg (by omega), if_neg (by omega), if_neg (by omega), if_pos (by omega)]
  have n1 : nd B n 1 = 0 := by unfold nd; rw [b36, if_neg (by omega), if_neg (by omega), if_pos (by omega)]
  have n2 : nd B n 2 = if k = 2 then 0 else 1 := by unfold nd; rw [b36, if_neg (by omega), if_pos (by omega)]
  have n3 : nd B n 3 = if k = 2 then d else 0 := by unfold nd; rw [b36, if_pos (by omega)]
  have nh : ∀ j, 4 ≤ j → nd B n j = nd A n j := fun j hj => by unfold nd; rw [b36, if_neg (by omega), if_neg (by omega), if_neg (by omega), if_neg (by omega)]
  unfold shC
  refine SR_nod h hn (fun j hj => by rw [b36, if_neg (by omega), if_neg (by omega), if_neg (by omega), if_neg (by omega)]) (sn_tch h hn b51 bo) (fun q hq => by rw [sn_11, if_neg (by omega)]) (Or.inr hz) ⟨?_, fun c => by omega, fun c i hi => ?_, fun c => by omega⟩ (fun j => ?_)
  · rw [sn_11, if_pos (by omega), n0, n1, n2, n3, if_neg (show ¬ k = 0 by omega), if_neg (show ¬ k = 3 by omega)]
  · rw [sn_11, if_neg (by omega), nh (85 + i) (by omega), hz i hi, w0 (1 + i) (by omega)]
    rfl
  · have o := h.ok j
    rw [b36]
    by_cases c3 : j = n * 95 + 3
    · rw [if_pos c3, c3]
      unfold bT
      rw [if_pos (show n * 95 + 3 < 6080 by omega), show (n * 95 + 3) % 95 = 3 by omega]
      show (if k = 2 then d else 0) < 64
      split <;> omega
    · rw [if_neg c3]
      by_cases c2 : j = n * 95 + 2
      · rw [if_pos c2, c2]
        unfold bT
        rw [if_pos (show n * 95 + 2 < 6080 by omega), show (n * 95 + 2) % 95 = 2 by omega]
        show (if k = 2 then 0 else 1) < 256
        split <;> omega
      · rw [if_neg c2]
        by_cases c1 : j = n * 95 + 1
        · rw [if_pos c1]
          omega
        · rw [if_neg c1]
          by_cases c0 : j = n * 95 + 0
          · rw [if_pos c0, c0]
            unfold bT
            rw [if_pos (show n * 95 + 0 < 6080 by omega), show (n * 95 + 0) % 95 = 0 by omega]
            show k < 4
            omega
          · rw [if_neg c0]
            exact o
end SRO
