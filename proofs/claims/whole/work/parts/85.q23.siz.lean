/-! ===== PURE: a file's size, in both ===== -/
section SRL
variable {bi : Nat → Nat} {w : Nat → Nat × Nat} {C A B X : tS} {W V : Nat → Nat} {n s i : Nat} {me : Bool}
theorem soo_oct {c v j : Nat} (hc : 0 < c ∧ c < C 10 7) : oW (sooC C c i v 11) c j = if j = i then v % 256 else oW (C 11) c j := by
  unfold sooC oW
  rw [if_pos hc]
  by_cases d : j = i
  · rw [if_pos d, d, up2_s]
    exact by8_set (Nat.mod_lt _ (by decide))
  · rw [if_neg d]
    by_cases e : c * 32 + j / 8 = c * 32 + i / 8
    · rw [e, up2_s]
      have : by8 (setF (C 11 (c * 32 + i / 8)) (8 * (i % 8)) 8 (v % 256)) (j % 8) = by8 (C 11 (c * 32 + i / 8)) (j % 8) := by8_oth (Nat.mod_lt _ (by decide)) (by omega)
      exact this
    · rw [up2_j e]
theorem soo_x {c v q : Nat} (hi : i < 256) (h : q < c * 32 ∨ c * 32 + 32 ≤ q) : sooC C c i v 11 q = C 11 q := by
  unfold sooC
  split
  · rw [up2_j (by omega)]
  · rfl
theorem soo_10 {c v q : Nat} : sooC C c i v 10 q = C 10 q := by
  unfold sooC
  split
  · rw [up2_o (by decide)]
  · rfl
theorem spn_oct {c v : Nat} : ∀ m i (C : tS) j, 0 < c ∧ c < C 10 7 → oW (spnC c v i m C 11) c j = if i ≤ j ∧ j < i + m then v % 256 else oW (C 11) c j
  | 0, i, C, j, _ => by
    rw [if_neg (by omega)]
    rfl
  | m + 1, i, C, j, hc => by
    show oW (spnC c v (i + 1) m (sooC C c i v) 11) c j = _
    rw [spn_oct m (i + 1) (sooC C c i v) j (by rw [soo_10]; exact hc), soo_oct hc]
    by_cases d : j = i
    · rw [if_neg (by omega), if_pos d, if_pos (by omega)]
    · by_cases e : i + 1 ≤ j ∧ j < i + 1 + m
      · rw [if_pos e, if_pos (by omega)]
      · rw [if_neg e, if_neg d, if_neg (by omega)]
theorem spn_11 {c v q : Nat} (h : q < c * 32 ∨ c * 32 + 32 ≤ q) : ∀ m i (C : tS), i + m ≤ 256 → spnC c v i m C 11 q = C 11 q
  | 0, _, _, _ => rfl
  | m + 1, i, C, hm => by
    show spnC c v (i + 1) m (sooC C c i v) 11 q = _
    rw [spn_11 h m (i + 1) _ (by omega), soo_x (by omega) h]
theorem zt_47 {r : Nat} : ∀ m k (A : tS) q, zt r k m A 47 q = if 256 * r + k ≤ q ∧ q < 256 * r + k + m then 0 else A 47 q
  | 0, k, A, q => by
    rw [if_neg (by omega)]
    rfl
  | m + 1, k, A, q => by
    show zt r (k + 1) m _ 47 q = _
    rw [zt_47 m (k + 1)]
    by_cases c : 256 * r + (k + 1) ≤ q ∧ q < 256 * r + (k + 1) + m
    · rw [if_pos c, if_pos (by omega)]
    · rw [if_neg c]
      by_cases d : q = 256 * r + k
      · rw [d, up2_s, if_pos (by omega)]
      · rw [up2_j d, if_neg (show ¬ (256 * r + k ≤ q ∧ q < 256 * r + k + (m + 1)) by omega)]
        split
        · rfl
        · rw [up2_o (by decide)]
theorem zt_o {r p : Nat} (h1 : p ≠ 47) (h2 : p ≠ 48) : ∀ m k (A : tS), zt r k m A p = A p
  | 0, _, _ => rfl
  | m + 1, k, A => by
    show zt r (k + 1) m _ p = _
    rw [zt_o h1 h2 m (k + 1), up2_rown h1]
    split
    · rfl
    · rw [up2_rown h2]
theorem zt_48 {r : Nat} : ∀ m k (A : tS), (∀ q, q ≠ r → zt r k m A 48 q = A 48 q) ∧ ((∃ j, k ≤ j ∧ j < k + m ∧ A 47 (256 * r + j) ≠ 0) → zt r k m A 48 r ≠ 0) ∧ (A 48 r ≠ 0 → zt r k m A 48 r ≠ 0)
  | 0, k, A => ⟨fun _ _ => rfl, fun ⟨j, a, b, _⟩ => by omega, fun h => h⟩
  | m + 1, k, A => by
    have e48 : ∀ q, up2 (if A 47 (256 * r + k) = 0 then A else up2 A 48 r 1) 47 (256 * r + k) 0 48 q = if A 47 (256 * r + k) ≠ 0 ∧ q = r then 1 else A 48 q := fun q => by
      rw [up2_o (by decide)]
      by_cases c : A 47 (256 * r + k) = 0
      · rw [if_pos c, if_neg (fun y => y.1 c)]
      · rw [if_neg c]
        by_cases d : q = r
        · rw [d, up2_s, if_pos ⟨c, rfl⟩]
        · rw [up2_j d, if_neg (fun y => d y.2)]
    have e47 : ∀ q, q ≠ 256 * r + k → up2 (if A 47 (256 * r + k) = 0 then A else up2 A 48 r 1) 47 (256 * r + k) 0 47 q = A 47 q := fun q hq => by
      rw [up2_j hq]
      split
      · rfl
      · rw [up2_o (by decide)]
    obtain ⟨i1, i2, i3⟩ := zt_48 m (k + 1) (up2 (if A 47 (256 * r + k) = 0 then A else up2 A 48 r 1) 47 (256 * r + k) 0)
    refine ⟨fun q hq => ?_, fun ⟨j, a, b, c⟩ => ?_, fun h => ?_⟩
    · show zt r (k + 1) m _ 48 q = _
      rw [i1 q hq, e48, if_neg (fun y => hq y.2)]
    · show zt r (k + 1) m _ 48 r ≠ 0
      by_cases d : j = k
      · subst d
        exact i3 (by rw [e48, if_pos ⟨c, rfl⟩]; decide)
      · exact i2 ⟨j, by omega, by omega, by rw [e47 _ (by omega)]; exact c⟩
    · show zt r (k + 1) m _ 48 r ≠ 0
      refine i3 ?_
      rw [e48]
      split
      · decide
      · exact h
theorem zt_id {r : Nat} : ∀ m k (A : tS), (∀ j, k ≤ j → j < k + m → A 47 (256 * r + j) = 0) → zt r k m A = A
  | 0, _, _, _ => rfl
  | m + 1, k, A, h => by
    have e := h k (Nat.le_refl _) (by omega)
    show zt r (k + 1) m (up2 (if A 47 (256 * r + k) = 0 then A else up2 A 48 r 1) 47 (256 * r + k) 0) = A
    rw [if_pos e, up2_ie e]
    exact zt_id m (k + 1) A (fun j a b => h j (by omega) (by omega))
/-- zeros behind a file's end -/
theorem SR_zb {e : Nat} (h : SR bi w C A) (hn : n < 64) (hk : nd A n 0 = 1) (he : e < 272384) : SR bi w (zbC C n e) (zb A n e) ∧ (∀ p, p ≠ 47 → p ≠ 48 → zb A n e p = A p) ∧ (zbC C n e 10 15 = C 10 15) := by
  have hi : e / 256 < 1064 := by omega
  obtain ⟨p1, -, -, -⟩ := pt_c h.ok h.ti h.mr hn (show nd A n 0 ≠ 3 by omega) hi
  unfold zbC zb
  by_cases c : hasA A n (e / 256) = 0
  · rw [if_neg (show ¬ (e < 272384 ∧ hasA A n (e / 256) ≠ 0) from fun q => q.2 c), if_pos (Or.inl (by rw [p1, c]; rfl))]
    exact ⟨h, fun _ _ _ => rfl, rfl⟩
  · obtain ⟨r, hr, rlt, hu, hw, hc, h7⟩ := cell_c h hn (by omega) hi c
    have r2 : r < 2000 := by have := h.zm.1.2.2.2.1; omega
    have fb := h.fb r r2 hu (by rw [hw]; show e / 256 < 2000; omega) (by rw [hw]; exact hk)
    have oc : ∀ j, j < 256 → oW (C 11) (34 + r) j = A 47 (256 * r + j) := fun j hj => fb j hj
    rw [if_pos (show e < 272384 ∧ hasA A n (e / 256) ≠ 0 from ⟨he, c⟩), hr, show r + 1 - 1 = r by omega, hc]
    by_cases z : zfC C (34 + r) (e % 256) = true
    · rw [if_pos (Or.inr z)]
      have zz := zf_iff.mp z
      rw [zt_id _ _ _ (fun j a b => by
        have := zz j (by omega) a
        rw [oc_o h7] at this
        rw [← oc j (by omega)]
        exact this)]
      exact ⟨h, fun _ _ _ => rfl, rfl⟩
    · rw [if_neg (by
        intro q
        rcases q with q | q
        · omega
        · exact z q)]
      have ex : ∃ j, e % 256 ≤ j ∧ j < e % 256 + (256 - e % 256) ∧ A 47 (256 * r + j) ≠ 0 := by
        refine Classical.byContradiction (fun q => z (zf_iff.mpr (fun j a b => ?_)))
        rw [oc_o h7, oc j a]
        exact Classical.byContradiction (fun y => q ⟨j, b, by omega, y⟩)
      obtain ⟨t1, t2, t3⟩ := zt_48 (r := r) (256 - e % 256) (e % 256) A
      generalize hY : spnC (34 + r) 0 (e % 256) (256 - e % 256) C = Y
      have Yo : ∀ p, p ≠ 11 → Y p = C p := fun p hp => by rw [← hY, spn_o hp]
      have Y7 : 34 + r < Y 10 7 := by rw [Yo 10 (by decide)]; exact h7
      have So : ∀ p, p ≠ 10 → p ≠ 17 → soiC Y (34 + r) p = Y p := fun p p0 p1 => by
        unfold soiC
        split
        · rw [up2_rown p0, up2_rown p1]
        · rfl
      have S10 : ∀ q, q ≠ 13 → soiC Y (34 + r) 10 q = Y 10 q := fun q hq => by
        unfold soiC
        split
        · rw [up2_j hq, up2_o (by decide)]
        · rfl
      have S17 : soiC Y (34 + r) 17 (34 + r) ≠ 0 ∧ ∀ k, k ≠ 34 + r → soiC Y (34 + r) 17 k = Y 17 k := by
        unfold soiC
        by_cases d : Y 17 (34 + r) = 0
        · rw [if_pos ⟨by omega, Y7, d⟩, up2_o (by decide), up2_s]
          exact ⟨by decide, fun k hk => by rw [up2_o (by decide), up2_j hk]⟩
        · rw [if_neg (fun q => d q.2.2)]
          exact ⟨d, fun _ _ => rfl⟩
      have hci : ci (soiC Y (34 + r)) := ci_soi (by rw [← hY]; exact ci_spn _ _ _ h.rk.1)
      refine ⟨SR_byt h r2 hu (by rw [hw]; show e / 256 < 2000; omega) (by rw [hw]; exact hk) (fun p a b => zt_o a b _ _ _) (fun q hq => by rw [zt_47, if_neg (by omega)]) t1 (fun p a b c => by rw [So p a c, Yo p b]) (fun q hq => by rw [S10 q hq, Yo 10 (by decide)]) (fun q hq => by rw [So 11 (by decide) (by decide), ← hY, spn_11 hq _ _ _ (by omega)]) (fun k hk => by rw [S17.2 k hk, Yo 17 (by decide)]) ⟨fun q => absurd q S17.1, fun q => absurd q (t2 ex)⟩ hci ?_, fun p a b => zt_o a b _ _ _, by rw [S10 15 (by decide), Yo 10 (by decide)]⟩
      intro j hj
      have := spn_oct (c := 34 + r) (v := 0) (256 - e % 256) (e % 256) C j ⟨by omega, h7⟩
      rw [hY] at this
      show by8 (soiC Y (34 + r) 11 ((34 + r) * 32 + j / 8)) (j % 8) = zt r (e % 256) (256 - e % 256) A 47 (256 * r + j)
      rw [So 11 (by decide) (by decide), zt_47]
      have e2 : by8 (Y 11 ((34 + r) * 32 + j / 8)) (j % 8) = oW (Y 11) (34 + r) j := rfl
      rw [e2, this]
      by_cases d : e % 256 ≤ j ∧ j < e % 256 + (256 - e % 256)
      · rw [if_pos d, if_pos (by omega)]
      · rw [if_neg d, if_neg (by omega)]
        exact oc j hj
end SRL
