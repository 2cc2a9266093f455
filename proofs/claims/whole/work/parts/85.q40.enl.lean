/-! ===== PURE: many blocks ensured, in both ===== -/
def obLp (n : Nat) : Nat → Nat → tS → tS
  | _, 0, C => C
  | i, m + 1, C => obLp n (i + 1) m (obT C n i)
section SREE
variable {bi : Nat → Nat} {w : Nat → Nat × Nat} {C A B X : tS} {n s i : Nat} {me : Bool}
/-- entries are no part of what ensure does -/
theorem get_eZ {r r' k x : Nat} (hk : k < 8) (hx : x < 30) : eZ (getA A r me) r' k x = eZ A r' k x := by
  obtain ⟨o, ho, o1, o2⟩ : ∃ o, 34 + k * 30 + x = o ∧ 34 ≤ o ∧ o < 274 := ⟨_, rfl, by omega, by omega⟩
  unfold eZ
  rw [ho, gA_rows.1, if_neg (by omega), if_neg (by omega)]
theorem attN_eZ {n' y r' k x : Nat} (hn : n' < 64) (hy : y < 95) (hk : k < 8) (hx : x < 30) : eZ (attN A n' y me) r' k x = eZ A r' k x := by
  have e : eZ (attN A n' y me) r' k x = eZ (getA A (ff A) me) r' k x := by
    unfold attN setN eZ
    rw [up2_o (by decide), up2_j (by omega)]
  rw [e, get_eZ hk hx]
theorem attP_eZ {d y r' k x : Nat} (hy : y < 32) (hk : k < 8) (hx : x < 30) : eZ (attP A d y me) r' k x = eZ A r' k x := by
  have e : eZ (attP A d y me) r' k x = eZ (getA A (ff A) me) r' k x := by
    obtain ⟨o, ho, o1, o2⟩ : ∃ o, 34 + k * 30 + x = o ∧ 34 ≤ o ∧ o < 274 := ⟨_, rfl, by omega, by omega⟩
    unfold attP setP eZ
    rw [ho, up2_o (by decide), up2_j (by omega)]
  rw [e, get_eZ hk hx]
theorem ens_eZ {r' k x : Nat} (hn : n < 64) (hi : i < 1064) (hk : k < 8) (hx : x < 30) : eZ (ensA A n i) r' k x = eZ A r' k x := by
  have e1 : ∀ B : tS, eZ (ens1 B n i) r' k x = eZ B r' k x := fun B => by
    unfold ens1
    split
    · exact attN_eZ hn (by omega) hk hx
    · rfl
  have e2 : ∀ B : tS, eZ (ens2 B n i) r' k x = eZ B r' k x := fun B => by
    unfold ens2
    split
    · exact attN_eZ hn (by omega) hk hx
    · rfl
  have e3 : ∀ B : tS, eZ (ens3 B n i) r' k x = eZ B r' k x := fun B => by
    unfold ens3
    split
    · exact attP_eZ (by omega) hk hx
    · rfl
  have e4 : ∀ B : tS, eZ (ens4 B n i) r' k x = eZ B r' k x := fun B => by
    unfold ens4
    split
    · exact attN_eZ hn (by omega) hk hx
    · exact attP_eZ (by unfold plA; split <;> omega) hk hx
  unfold ensA
  split
  · rfl
  · rw [e4, e3, e2, e1]
    unfold eZ
    rw [up2_o (by decide)]
/-- what ensure takes is no more than was counted -/
theorem ob_ne (h : SR bi w C A) (hn : n < 64) (h3 : nd A n 0 ≠ 3) (hi : i < 1064) (c : hasA A n i = 0) : obN C n i ≤ neL C n i i 1 := by
  obtain ⟨p1, p2, p3, p4⟩ := pt_c h.ok h.ti h.mr hn h3 hi
  have q1 : ptC C n i = 0 := by rw [p1, c]; rfl
  show obN C n i ≤ (if ptC C n i = 0 then 1 else 0) + (if 8 ≤ i ∧ (i = i ∨ (i - 8) % 32 = 0) ∧ tbC C n i = 0 then 1 else 0) + (if 40 ≤ i ∧ (i = i ∨ i = 40) ∧ nwC C n 10 = 0 then 1 else 0) + 0
  rw [if_pos q1]
  unfold obN
  by_cases d : 40 ≤ i ∧ nwC C n 10 = 0
  · have t : tbC C n i = 0 := by
      rw [p2 (by omega), lf_94 d.1 (by rw [p4] at d; exact pv_0.mp d.2)]
      rfl
    rw [if_pos d, if_pos (show 8 ≤ i ∧ (i = i ∨ (i - 8) % 32 = 0) ∧ tbC C n i = 0 from ⟨by omega, Or.inl rfl, t⟩), if_pos (show 40 ≤ i ∧ (i = i ∨ i = 40) ∧ nwC C n 10 = 0 from ⟨d.1, Or.inl rfl, d.2⟩)]
    split <;> omega
  · have e : ob1T C n i = C := by unfold ob1T; rw [if_neg d]
    rw [if_neg d, e]
    by_cases f : 8 ≤ i ∧ tbC C n i = 0
    · rw [if_pos f, if_pos (show 8 ≤ i ∧ (i = i ∨ (i - 8) % 32 = 0) ∧ tbC C n i = 0 from ⟨f.1, Or.inl rfl, f.2⟩)]
      omega
    · rw [if_neg f]
      omega
theorem ne_mono {X : tS} (hF : 8 ≤ i + 1 → tbC X n (i + 1) = 0 → (i + 1 - 8) % 32 = 0) (hG : 40 ≤ i + 1 → nwC X n 10 = 0 → i + 1 = 40) (h94 : nwC X n 10 = 0 → nwC C n 10 = 0) : ∀ m q, i + 1 ≤ q → (∀ j, q ≤ j → j < q + m → (ptC X n j = 0 → ptC C n j = 0) ∧ (8 ≤ j → tbC X n j = 0 → tbC C n j = 0)) → neL X n (i + 1) q m ≤ neL C n i q m
  | 0, _, _, _ => Nat.le_refl _
  | m + 1, q, hq, H => by
    have IH := ne_mono hF hG h94 m (q + 1) (by omega) (fun j a b => H j (by omega) (by omega))
    obtain ⟨a1, a2⟩ := H q (Nat.le_refl _) (by omega)
    have i1 : (if ptC X n q = 0 then 1 else 0) ≤ (if ptC C n q = 0 then 1 else 0) := by
      by_cases c : ptC X n q = 0
      · rw [if_pos c, if_pos (a1 c)]
        exact Nat.le_refl _
      · rw [if_neg c]
        exact Nat.zero_le _
    have i2 : (if 8 ≤ q ∧ (q = i + 1 ∨ (q - 8) % 32 = 0) ∧ tbC X n q = 0 then 1 else 0) ≤ (if 8 ≤ q ∧ (q = i ∨ (q - 8) % 32 = 0) ∧ tbC C n q = 0 then 1 else 0) := by
      by_cases c : 8 ≤ q ∧ (q = i + 1 ∨ (q - 8) % 32 = 0) ∧ tbC X n q = 0
      · have z : (q - 8) % 32 = 0 := by
          rcases c.2.1 with e | e
          · rw [e]
            rw [e] at c
            exact hF c.1 c.2.2
          · exact e
        rw [if_pos c, if_pos (show 8 ≤ q ∧ (q = i ∨ (q - 8) % 32 = 0) ∧ tbC C n q = 0 from ⟨c.1, Or.inr z, a2 c.1 c.2.2⟩)]
        exact Nat.le_refl _
      · rw [if_neg c]
        exact Nat.zero_le _
    have i3 : (if 40 ≤ q ∧ (q = i + 1 ∨ q = 40) ∧ nwC X n 10 = 0 then 1 else 0) ≤ (if 40 ≤ q ∧ (q = i ∨ q = 40) ∧ nwC C n 10 = 0 then 1 else 0) := by
      by_cases c : 40 ≤ q ∧ (q = i + 1 ∨ q = 40) ∧ nwC X n 10 = 0
      · have z : q = 40 := by
          rcases c.2.1 with e | e
          · rw [e]
            rw [e] at c
            exact hG c.1 c.2.2
          · exact e
        rw [if_pos c, if_pos (show 40 ≤ q ∧ (q = i ∨ q = 40) ∧ nwC C n 10 = 0 from ⟨c.1, Or.inr z, h94 c.2.2⟩)]
        exact Nat.le_refl _
      · rw [if_neg c]
        exact Nat.zero_le _
    show (if ptC X n q = 0 then 1 else 0) + (if 8 ≤ q ∧ (q = i + 1 ∨ (q - 8) % 32 = 0) ∧ tbC X n q = 0 then 1 else 0) + (if 40 ≤ q ∧ (q = i + 1 ∨ q = 40) ∧ nwC X n 10 = 0 then 1 else 0) + neL X n (i + 1) (q + 1) m ≤ (if ptC C n q = 0 then 1 else 0) + (if 8 ≤ q ∧ (q = i ∨ (q - 8) % 32 = 0) ∧ tbC C n q = 0 then 1 else 0) + (if 40 ≤ q ∧ (q = i ∨ q = 40) ∧ nwC C n 10 = 0 then 1 else 0) + neL C n i (q + 1) m
    omega
/-- a place's table is there -/
theorem slo_pa (hv : vs s) (hs : rs s = false) (h : slo A n s ≠ 0) : slo A n (pa s) ≠ 0 := fun q => by
  have := (slo_n (A := A) (n := n) hv hs).1
  rw [if_pos q] at this
  exact h this
theorem rs_i (h : 8 ≤ i) (hi : i < 1064) : rs i = false := decide_eq_false (by omega)
/-- tables are not empty, behind ensure -/
theorem TF_ens (t : TF A) (hi : i < 1064) (h1 : slo B n i ≠ 0) (h2 : ∀ n' s', n' < 64 → vs s' → slo A n' s' ≠ 0 → slo B n' s' = slo A n' s')
    (h3 : ∀ n' s', n' < 64 → vs s' → slo A n' s' = 0 → slo B n' s' ≠ 0 → n' = n ∧ (s' = i ∨ (rs i = false ∧ s' = pa i) ∨ (rs i = false ∧ rs (pa i) = false ∧ s' = pa (pa i)))) : TF B := by
  intro n' s' hn' hv h2000 h0
  by_cases c : slo A n' s' = 0
  · obtain ⟨rfl, q⟩ := h3 n' s' hn' hv c h0
    have ch : ∀ t, vs t → rs t = false → slo B n' t ≠ 0 → ∃ k, k < 32 ∧ slo B n' (chS (pa t) k) ≠ 0 := fun t hv hr hz => by
      refine ⟨kx t, (slo_n (A := A) (n := n') hv hr).2.2.2.1, ?_⟩
      have e : chS (pa t) (kx t) = t := by
        have q := rs_f hr
        unfold vs at hv
        unfold chS pa kx
        by_cases c1 : 2100 ≤ t
        · rw [if_pos c1, if_pos c1, if_neg (by decide), if_pos rfl]; omega
        · rw [if_neg c1, if_neg c1]
          by_cases c2 : t < 40
          · rw [if_pos c2, if_pos c2, if_pos rfl]; omega
          · rw [if_neg c2, if_neg c2, if_neg (by omega), if_neg (by omega)]; omega
      rw [e]
      exact hz
    rcases q with q | ⟨q1, q2⟩ | ⟨q1, q2, q3⟩
    · omega
    · rw [q2]
      exact ch i (Or.inl hi) q1 h1
    · rw [q3]
      have v := (slo_n (A := A) (n := n') (Or.inl hi) q1).2.1
      exact ch (pa i) v q2 (slo_pa (Or.inl hi) q1 h1)
  · obtain ⟨k, k1, k2⟩ := t n' s' hn' hv h2000 c
    refine ⟨k, k1, ?_⟩
    rw [h2 n' _ hn' (chS_ok hv h2000 k1).1 k2]
    exact k2
theorem SR_enL (hn : n < 64) : ∀ m i (bi : Nat → Nat) (w : Nat → Nat × Nat) (C A : tS), SR bi w C A → (nd A n 0 = 1 ∨ nd A n 0 = 2) → i + m ≤ 1064 → neL C n i i m ≤ fre A → A 35 34 + 3 * m < 1000000 →
    ∃ bi' w' k, SR bi' w' (obLp n i m C) (enL n i m A) ∧ Ext bi bi' w w' A (enL n i m A) ∧ (∀ j, i ≤ j → j < i + m → slo (enL n i m A) n j ≠ 0) ∧ (∀ n' s', n' < 64 → vs s' → slo A n' s' ≠ 0 → slo (enL n i m A) n' s' = slo A n' s') ∧
      (∀ n' s', n' < 64 → vs s' → slo A n' s' = 0 → slo (enL n i m A) n' s' ≠ 0 → n' = n ∧ ∃ j, i ≤ j ∧ j < i + m ∧ (s' = j ∨ (rs j = false ∧ s' = pa j) ∨ (rs j = false ∧ rs (pa j) = false ∧ s' = pa (pa j)))) ∧ Gt A (enL n i m A) C (obLp n i m C) k ∧ k ≤ 3 * m ∧ (TF A → TF (enL n i m A)) ∧ (∀ r k x, k < 8 → x < 30 → eZ (enL n i m A) r k x = eZ A r k x)
  | 0, i, bi, w, C, A, h, _, _, _, _ => ⟨bi, w, 0, h, Ext_r, fun j a b => by omega, fun _ _ _ _ _ => rfl, fun _ _ _ _ a b => absurd a b, ⟨rfl, Nat.le_refl _, Nat.le_refl _, Nat.le_refl _, Nat.le_refl _, fun _ _ => rfl⟩, Nat.le_refl _, fun t => t, fun _ _ _ _ _ => rfl⟩
  | m + 1, i, bi, w, C, A, h, hkd, him, hne, h34 => by
    have h3 : nd A n 0 ≠ 3 := by omega
    have hi : i < 1064 := by omega
    have e0 : neL C n i i (m + 1) = neL C n i i 1 + neL C n i (i + 1) m := by
      show _ + neL C n i (i + 1) m = (_ + 0) + neL C n i (i + 1) m
      rfl
    obtain ⟨bi1, w1, g1, g2, g3, g4, g5, g6⟩ := SR_ens (i := i) h hn hkd hi (fun c => Nat.le_trans (ob_ne h hn h3 hi c) (by omega)) (by omega)
    have kd1 : nd (ensA A n i) n 0 = nd A n 0 := g2.2.2 n 0 hn (by omega)
    have h31 : nd (ensA A n i) n 0 ≠ 3 := by omega
    have zp : ∀ j, j < 1064 → ((ptC C n j = 0 ↔ slo A n j = 0) ∧ (8 ≤ j → (tbC C n j = 0 ↔ slo A n (pa j) = 0))) ∧ (nwC C n 10 = 0 ↔ slo A n 2001 = 0) := fun j hj => by
      obtain ⟨p1, p2, p3, p4⟩ := pt_c h.ok h.ti h.mr hn h3 hj
      refine ⟨⟨by rw [p1, pv_0, hs_slo hj], fun h8 => by rw [p2 h8, pv_0, lf_slo h8 hj]⟩, by rw [p4, pv_0]; rfl⟩
    have zq : ∀ j, j < 1064 → ((ptC (obT C n i) n j = 0 ↔ slo (ensA A n i) n j = 0) ∧ (8 ≤ j → (tbC (obT C n i) n j = 0 ↔ slo (ensA A n i) n (pa j) = 0))) ∧ (nwC (obT C n i) n 10 = 0 ↔ slo (ensA A n i) n 2001 = 0) := fun j hj => by
      obtain ⟨p1, p2, p3, p4⟩ := pt_c g1.ok g1.ti g1.mr hn h31 hj
      refine ⟨⟨by rw [p1, pv_0, hs_slo hj], fun h8 => by rw [p2 h8, pv_0, lf_slo h8 hj]⟩, by rw [p4, pv_0]; rfl⟩
    have v1 : vs 2001 := by unfold vs; omega
    have kp : ∀ s', vs s' → slo (ensA A n i) n s' = 0 → slo A n s' = 0 := fun s' hv q => Classical.byContradiction (fun c => c (by rw [← g4 n s' hn hv c]; exact q))
    have vpa : ∀ j, 8 ≤ j → j < 1064 → vs (pa j) := fun j h8 hj => (slo_n (A := A) (n := n) (Or.inl hj) (rs_i h8 hj)).2.1
    have mono : neL (obT C n i) n (i + 1) (i + 1) m ≤ neL C n i (i + 1) m := by
      refine ne_mono (fun a b => ?_) (fun a b => ?_) (fun b => ?_) m (i + 1) (Nat.le_refl _) (fun j a b => ⟨fun q => ?_, fun h8 q => ?_⟩)
      · refine Classical.byContradiction (fun c => ?_)
        by_cases hm : i + 1 < 1064
        · rw [((zq (i + 1) hm).1.2 a)] at b
          have e : pa (i + 1) = pa i := by
            unfold pa
            rw [if_neg (show ¬ 2100 ≤ i + 1 by omega), if_neg (show ¬ 2100 ≤ i by omega)]
            by_cases c2 : i + 1 < 40
            · rw [if_pos c2, if_pos (show i < 40 by omega)]
            · rw [if_neg c2, if_neg (show ¬ i < 40 by omega)]
              omega
          rw [e] at b
          exact slo_pa (Or.inl hi) (rs_i (by omega) hi) g3 b
        · omega
      · refine Classical.byContradiction (fun c => ?_)
        rw [(zq i hi).2] at b
        have q1 := slo_pa (Or.inl hi) (rs_i (by omega) hi) g3
        have e : pa i = 2100 + (i - 40) / 32 := by
          unfold pa
          rw [if_neg (by omega), if_neg (by omega)]
        have q2 := slo_pa (vpa i (by omega) hi) (by rw [e]; exact decide_eq_false (by omega)) q1
        rw [e, show pa (2100 + (i - 40) / 32) = 2001 by unfold pa; rw [if_pos (by omega)]] at q2
        exact q2 b
      · exact (zp i hi).2.mpr (kp 2001 v1 ((zq i hi).2.mp b))
      · exact (zp j (by omega)).1.1.mpr (kp j (Or.inl (by omega)) ((zq j (by omega)).1.1.mp q))
      · exact ((zp j (by omega)).1.2 h8).mpr (kp _ (vpa j h8 (by omega)) (((zq j (by omega)).1.2 h8).mp q))
    have kle : (if hasA A n i = 0 then obN C n i else 0) ≤ neL C n i i 1 ∧ (if hasA A n i = 0 then obN C n i else 0) ≤ 3 := by
      by_cases c : hasA A n i = 0
      · rw [if_pos c]
        refine ⟨ob_ne h hn h3 hi c, ?_⟩
        unfold obN
        split <;> split <;> omega
      · rw [if_neg c]
        omega
    have gf := g6.1
    obtain ⟨bi2, w2, k2, f1, f2, f3, f4, f5, f6, f7, f8, f9⟩ := SR_enL hn m (i + 1) bi1 w1 (obT C n i) (ensA A n i) g1 (by omega) (by omega) (by omega) (by have := g6.2.2.1; omega)
    refine ⟨bi2, w2, (if hasA A n i = 0 then obN C n i else 0) + k2, f1, Ext_t g2 f2, fun j a b => ?_, fun n' s' a b c => ?_, fun n' s' a b c d => ?_, Gt_t g6 f6, by omega, fun t => f8 (TF_ens t hi g3 g4 g5), fun r k x a b => ?_⟩
    · show slo (enL n (i + 1) m (ensA A n i)) n j ≠ 0
      by_cases e : j = i
      · rw [e, f4 n i hn (Or.inl hi) g3]
        exact g3
      · exact f3 j (by omega) (by omega)
    · show slo (enL n (i + 1) m (ensA A n i)) n' s' = slo A n' s'
      rw [f4 n' s' a b (by rw [g4 n' s' a b c]; exact c), g4 n' s' a b c]
    · by_cases e : slo (ensA A n i) n' s' = 0
      · obtain ⟨x1, j, x2, x3, x4⟩ := f5 n' s' a b e d
        exact ⟨x1, j, by omega, by omega, x4⟩
      · obtain ⟨x1, x2⟩ := g5 n' s' a b c e
        exact ⟨x1, i, Nat.le_refl _, by omega, x2⟩
    · show eZ (enL n (i + 1) m (ensA A n i)) r k x = eZ A r k x
      rw [f9 r k x a b, ens_eZ hn hi a b]
end SREE
