/-! ===== PURE: what a walk sees is alike; what is told of a node is alike ===== -/
/-- the tree's form between calls -/
def DI (w : Nat → Nat × Nat) (A : tS) : Prop :=
  (∀ d, d < 64 → nd A d 0 = 2 → nd A d 1 % 256 = 0 ∧ nd A (nd A d 3) 0 = 2 ∧ ∀ i, i < nd A d 1 / 256 → hasA A d i ≠ 0) ∧
  (∀ d k, d < 64 → nd A d 0 = 2 → k < eAll A d → eN A d k ≠ 64 → nd A (eN A d k) 0 ≠ 0 ∧ 1 ≤ eL A d k) ∧
  (∀ n, n < 64 → nd A n 0 = 3 → nd A n 1 = 0 ∧ 1 ≤ nd A n 4) ∧
  (∀ n, n < 64 → nd A n 0 = 1 ∨ nd A n 0 = 2 → ∀ i, i < 1064 → nd A n 1 ≤ 256 * i → hasA A n i = 0) ∧
  (∀ r, r < 2000 → us A r → 2000 ≤ (w r).2 → ∃ k, k < 32 ∧ pt A r k ≠ 0)
theorem bne_e {x y : Nat} (h : x = 0 ↔ y = 0) : (x != 0) = (y != 0) := by
  cases x with
  | zero =>
    have := h.mp rfl
    rw [this]
  | succ x =>
    cases y with
    | zero => exact absurd (h.mpr rfl) (by omega)
    | succ y => rfl
theorem cn_f : ∀ m k, cn (fun _ => false) k m = 0
  | 0, _ => rfl
  | m + 1, k => by simp [cn, cn_f m (k + 1)]
section VWS
variable {bi : Nat → Nat} {w : Nat → Nat × Nat} {C A : tS} {W : Nat → Nat}
theorem oW_0 {c i : Nat} (h : W (c * 32 + i / 8) = 0) : oW W c i = 0 := by
  unfold oW by8
  rw [h]
  simp
theorem eZ_lt (h : okT A) {r k : Nat} (hk : k < 8) : eZ A r k 0 < 65 ∧ eZ A r k 1 < 29 ∧ ∀ i, i < 28 → eZ A r k (2 + i) < 128 := by
  have q : ∀ v, v < 30 → eZ A r k v < bR (34 + k * 30 + v) := fun v hv => by
    have := h (6080 + r * 274 + (34 + k * 30 + v))
    unfold bT at this
    rw [if_neg (by omega), show (6080 + r * 274 + (34 + k * 30 + v) - 6080) % 274 = 34 + k * 30 + v by omega] at this
    exact this
  refine ⟨?_, ?_, fun i hi => ?_⟩
  · have := q 0 (by omega)
    unfold bR at this
    rw [if_neg (by omega), if_neg (by omega), if_neg (by omega), if_pos (by omega)] at this
    exact this
  · have := q 1 (by omega)
    unfold bR at this
    rw [if_neg (by omega), if_neg (by omega), if_neg (by omega), if_neg (by omega), if_pos (by omega)] at this
    exact this
  · have := q (2 + i) (by omega)
    unfold bR at this
    rw [if_neg (by omega), if_neg (by omega), if_neg (by omega), if_neg (by omega), if_neg (by omega)] at this
    exact this
theorem e_eZ {d k v : Nat} : A 36 (ex A d k v) = eZ A (hasA A d (k / 8) - 1) (k % 8) v := rfl
/-- the cell of a node's block -/
theorem cell_c (h : SR bi w C A) {n i : Nat} (hn : n < 64) (h3 : nd A n 0 ≠ 3) (hi : i < 1064) (h0 : hasA A n i ≠ 0) : ∃ r, hasA A n i = r + 1 ∧ r < A 35 7 ∧ us A r ∧ w r = (n, i) ∧ ptC C n i % 2048 = 34 + r ∧ 34 + r < C 10 7 := by
  obtain ⟨r, hr⟩ : ∃ r, hasA A n i = r + 1 := ⟨hasA A n i - 1, by omega⟩
  have sl : slo A n i = r + 1 := by
    unfold slo
    rw [if_neg (by omega), if_neg (by omega), if_neg (by omega)]
    exact hr
  obtain ⟨a1, a2, a3⟩ := h.ti.2.1 n i r hn (Or.inl hi) sl
  have a4 := (h.ti.1 r a1 a2).1
  have e := (pt_c h.ok h.ti h.mr hn h3 hi).1
  refine ⟨r, hr, a4, a2, a3, ?_, by rw [h.zm.1.1]; omega⟩
  rw [e, hr, pv_mod (by omega), if_neg (by omega)]
  omega
theorem oc_o {c i : Nat} (h : c < C 10 7) : ocC C c i = oW (C 11) c i := by
  unfold ocC oW
  rw [if_pos h]
theorem VW_of (h : SR bi w C A) (hD : DI w A) : VW C A := by
  obtain ⟨d1, d2, d3, d4, d5⟩ := hD
  refine ⟨fun n hn => (hd_c h.ok h.mr hn).1, fun n hn q => ?_, fun n hn q => ?_, fun d k hd q hk => ?_, fun n hn q => ?_⟩
  · have := (d1 n hn q).2.1
    exact ⟨((hd_c h.ok h.mr hn).2 (by omega)).2.1, (nd_k h.ok hn).2.2.2.1, by omega⟩
  · have := ((hd_c h.ok h.mr hn).2 (by omega)).2.2
    rw [if_neg (by omega)] at this
    exact ⟨this, (d1 n hn q).1, by have := (nd_k h.ok hn).2.1; omega⟩
  · have k8 : k / 8 < nd A d 1 / 256 := by unfold eAll at hk; omega
    have i1 : k / 8 < 1064 := by have := (nd_k h.ok hd).2.1; omega
    obtain ⟨r, a1, a2, a3, a4, a5, a6⟩ := cell_c h hd (by omega) i1 ((d1 d hd q).2.2 _ k8)
    have en : ∀ v, A 36 (ex A d k v) = eZ A r (k % 8) v := fun v => by rw [e_eZ (A := A) (d := d) (k := k) (v := v), a1]; rfl
    have hB := (h.mr.2.2.2 r (by have := h.zm.1.2.2.2.1; omega) a3).2 (by rw [a4]; show k / 8 < 2000; omega) (by rw [a4]; exact q) (k % 8) (by omega)
    obtain ⟨b1, b2⟩ := hB
    have l := eZ_lt h.ok (r := r) (k := k % 8) (by omega)
    unfold lnE chE clE eN eL eC
    rw [a5, en 0, en 1, oc_o a6, oc_o a6]
    by_cases c : eZ A r (k % 8) 0 = 64
    · rw [if_pos c]
      refine ⟨?_, fun x => absurd c x⟩
      refine oW_0 ?_
      have := b1 c 3 (by omega)
      rwa [show (34 + r) * 32 + (k % 8 * 32 + 28) / 8 = (34 + r) * 32 + k % 8 * 4 + 3 by omega]
    · rw [if_neg c]
      obtain ⟨c1, c2, c3⟩ := b2 c
      exact ⟨c1, fun _ => ⟨by omega, c2, fun i hi => by rw [oc_o a6, en (2 + i)]; exact c3 i hi⟩⟩
  · have e := ((hd_c h.ok h.mr hn).2 (by omega)).2.2
    rw [if_pos q] at e
    refine ⟨e, (d3 n hn q).2, by have := (nd_k h.ok hn).2.2.2.2; omega, fun i hi => ⟨?_, ?_⟩⟩
    · rw [oc_o (by rw [h.zm.1.1]; omega)]
      exact (h.mr.2.2.1 n hn).2.1 q i hi
    · exact nd_t h.ok hn (by have := (nd_k h.ok hn).2.2.2.2; omega)
/-- what is told of a node -/
theorem deS_eq (h : SR bi w C A) (hD : DI w A) {n v : Nat} (hn : n < 64) (h0 : nd A n 0 ≠ 0) (hv : v < 7) : deS C n v = tdA A n v := by
  obtain ⟨e0, e1⟩ := hd_c h.ok h.mr hn
  obtain ⟨e1, e2, e3⟩ := e1 h0
  obtain ⟨b0, b1, b2, b3, b4⟩ := nd_k h.ok hn
  have bl : cbC C n = td4 A n := by
    unfold cbC td4
    rw [e0]
    by_cases c : nd A n 0 = 3
    · rw [if_pos c, (hD.2.2.1 n hn c).1]
      rfl
    · rw [if_neg c, e3, if_neg c]
      by_cases c2 : nd A n 1 = 0
      · rw [c2]
        show cn (fun i => ptC C n i != 0) 0 1 = 0
        have z := hD.2.2.2.1 n hn (by omega) 0 (by omega) (by omega)
        have := (pt_c h.ok h.ti h.mr hn c (i := 0) (by omega)).1
        rw [z] at this
        simp [cn, this, pv]
      · rw [show (nd A n 1 - 1) / 256 + 1 = (nd A n 1 + 255) / 256 by omega]
        refine cn_congr _ _ (fun i _ hi => ?_)
        have := (pt_c h.ok h.ti h.mr hn c (i := i) (by omega)).1
        rw [this]
        exact bne_e pv_0
  have pb : cpC C n = td5 A n := by
    unfold cpC td5
    rw [e0]
    by_cases c : nd A n 0 = 3
    · have t := h.ti.2.2.1 n hn (by omega) (by omega)
      have t8 := t 8 (by omega)
      have t9 := t 9 (by omega)
      rw [if_pos c, if_pos (show nd A n 93 = 0 from t8), if_pos (show nd A n 94 = 0 from t9)]
    · obtain ⟨-, -, p9, p10⟩ := pt_c h.ok h.ti h.mr hn c (i := 0) (by omega)
      rw [if_neg c, p9, p10]
      have z9 := pv_0 (bi := bi) (A := A) (x := nd A n 93)
      have z10 := pv_0 (bi := bi) (A := A) (x := nd A n 94)
      have e9 : (if pv bi A (nd A n 93) = 0 then 0 else 1) = (if nd A n 93 = 0 then 0 else 1) := by
        by_cases q : nd A n 93 = 0
        · rw [if_pos q, if_pos (z9.mpr q)]
        · rw [if_neg q, if_neg (fun r => q (z9.mp r))]
      rw [e9]
      by_cases q : nd A n 94 = 0
      · rw [if_pos (z10.mpr q), if_pos q, q]
        have : cn (fun i => woC C (pv bi A 0 % 2048) i != 0) 0 32 = 0 := by
          rw [cn_congr (q := fun _ => false) _ _ (fun i _ hi => ?_)]
          · exact cn_f _ _
          · have z : C 11 (0 * 32 + i) = 0 := h.mr.1 _ (by omega)
            show (woC C 0 i != 0) = false
            unfold woC
            rw [z]
            simp
        rw [this]
      · rw [if_neg (fun r => q (z10.mp r)), if_neg q]
        obtain ⟨r, hr⟩ : ∃ r, nd A n 94 = r + 1 := ⟨nd A n 94 - 1, by omega⟩
        obtain ⟨a1, a2, a3⟩ := h.ti.2.1 n 2001 r hn (by unfold vs; omega) (show nd A n 94 = r + 1 from hr)
        have a4 := (h.ti.1 r a1 a2).1
        have hB := (h.mr.2.2.2 r a1 a2).1 (by rw [a3]; show 2000 ≤ 2001; omega)
        have : cn (fun i => woC C (pv bi A (nd A n 94) % 2048) i != 0) 0 32 = cn (fun k => A 36 (6080 + (nd A n 94 - 1) * 274 + (2 + k)) != 0) 0 32 := by
          refine cn_congr _ _ (fun i _ hi => ?_)
          rw [hr, pv_mod (by omega), if_neg (by omega), show 33 + (r + 1) = 34 + r by omega]
          unfold woC
          rw [if_pos (by rw [h.zm.1.1]; omega), hB i (by omega)]
          exact bne_e (y := pt A r i) pv_0
        rw [this]
        omega
  have en : cnE C n = td6 A n := by
    unfold cnE td6
    by_cases c : nd A n 0 = 2
    · have hV := VW_of h hD
      rw [if_pos c, (fn_eq hV (o := 0) (st := 0) (l := 1) hn c (by omega)).1]
      refine cn_congr _ _ (fun k _ hk => ?_)
      have := hV.ent n k hn c (by omega)
      rw [this.1]
      by_cases q : eN A n k = 64
      · rw [if_pos q, q]; rfl
      · rw [if_neg q]
        have l := (hD.2.1 n k hn c (by omega) q).2
        have l' : eL A n k ≠ 0 := by omega
        have x1 : (eL A n k != 0) = true := by simp [l']
        have x2 : (eN A n k != 64) = true := by simp [q]
        rw [x1, x2]
    · rw [if_neg c]
      unfold alE
      rw [e0, if_neg c]
      rfl
  unfold deS tdA
  have : v = 0 ∨ v = 1 ∨ v = 2 ∨ v = 3 ∨ v = 4 ∨ v = 5 ∨ v = 6 := by omega
  rcases this with rfl | rfl | rfl | rfl | rfl | rfl | rfl
  · exact e0
  · exact e3
  · exact e1
  · rfl
  · exact bl
  · exact pb
  · exact en
end VWS
