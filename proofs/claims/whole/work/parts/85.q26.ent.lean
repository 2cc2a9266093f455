/-! ===== PURE: an entry set, in both ===== -/
section SRP
variable {bi : Nat → Nat} {w : Nat → Nat × Nat} {C A B X : tS} {W V : Nat → Nat} {n s i : Nat} {me : Bool}
/-- octets of one cell -/
theorem seN_r {c fr o st : Nat} (hc : 0 < c) (ho : o ≠ 11) : ∀ m i (C : tS), c < C 10 7 → fr + i + m ≤ 256 → (∀ j, oW (seN1 c fr o st i m C 11) c j = if fr + i ≤ j ∧ j < fr + i + m then C o (st + (j - fr)) % 256 else oW (C 11) c j) ∧ (∀ q, q < c * 32 ∨ c * 32 + 32 ≤ q → seN1 c fr o st i m C 11 q = C 11 q) ∧ (∀ p, p ≠ 11 → seN1 c fr o st i m C p = C p) ∧ (∀ q, q < c * 32 + (fr + i) / 8 ∨ c * 32 + (fr + i + m + 7) / 8 ≤ q → seN1 c fr o st i m C 11 q = C 11 q)
  | 0, i, C, _, _ => ⟨fun j => by rw [if_neg (by omega)]; rfl, fun _ _ => rfl, fun _ _ => rfl, fun _ _ => rfl⟩
  | m + 1, i, C, h7, hm => by
    have e10 : ∀ q, sooC C c (fr + i) (C o (st + i)) 10 q = C 10 q := fun q => soo_10
    have ep : ∀ p, p ≠ 11 → sooC C c (fr + i) (C o (st + i)) p = C p := fun p hp => by
      unfold sooC
      split
      · rw [up2_rown hp]
      · rfl
    obtain ⟨i1, i2, i3, i4⟩ := seN_r (fr := fr) (st := st) hc ho m (i + 1) (sooC C c (fr + i) (C o (st + i))) (by rw [e10]; exact h7) (by omega)
    refine ⟨fun j => ?_, fun q hq => ?_, fun p hp => ?_, fun q hq => ?_⟩
    · show oW (seN1 c fr o st (i + 1) m (sooC C c (fr + i) (C o (st + i))) 11) c j = _
      rw [i1, soo_oct ⟨hc, h7⟩, ep o ho]
      by_cases d : j = fr + i
      · rw [if_neg (by omega), if_pos d, if_pos (by omega), d, show fr + i - fr = i by omega]
      · by_cases e : fr + (i + 1) ≤ j ∧ j < fr + (i + 1) + m
        · rw [if_pos e, if_pos (by omega)]
        · rw [if_neg e, if_neg d, if_neg (by omega)]
    · show seN1 c fr o st (i + 1) m (sooC C c (fr + i) (C o (st + i))) 11 q = _
      rw [i2 q hq, soo_x (by omega) hq]
    · show seN1 c fr o st (i + 1) m (sooC C c (fr + i) (C o (st + i))) p = _
      rw [i3 p hp, ep p hp]
    · show seN1 c fr o st (i + 1) m (sooC C c (fr + i) (C o (st + i))) 11 q = _
      rw [i4 q (by omega)]
      unfold sooC
      split
      · rw [up2_j (by omega)]
      · rfl
theorem nmL_r {d k r : Nat} {nm : Nat → Nat} (hd : d < 64) (hk : k / 8 < 1064) (hr : r < 2000) : ∀ m i (A : tS), hasA A d (k / 8) = r + 1 → i + m ≤ 28 → (∀ j, nmL d k nm m i A 36 j = if 6080 + r * 274 + (34 + k % 8 * 30 + 2) + i ≤ j ∧ j < 6080 + r * 274 + (34 + k % 8 * 30 + 2) + i + m then nm (j - (6080 + r * 274 + (34 + k % 8 * 30 + 2))) else A 36 j) ∧ (∀ p, p ≠ 36 → nmL d k nm m i A p = A p) ∧ hasA (nmL d k nm m i A) d (k / 8) = r + 1
  | 0, i, A, h, _ => ⟨fun j => by rw [if_neg (by omega)]; rfl, fun _ _ => rfl, h⟩
  | m + 1, i, A, h, hm => by
    have ee : ex A d k (2 + i) = 6080 + r * 274 + (34 + k % 8 * 30 + (2 + i)) := by
      unfold ex
      rw [h, show r + 1 - 1 = r by omega]
    have h2 : hasA (up2 A 36 (ex A d k (2 + i)) (nm i)) d (k / 8) = r + 1 := by
      rw [ee, has_ent (by omega) (by omega) hd hk]
      exact h
    obtain ⟨i1, i2, i3⟩ := nmL_r (nm := nm) hd hk hr m (i + 1) (up2 A 36 (ex A d k (2 + i)) (nm i)) h2 (by omega)
    refine ⟨fun j => ?_, fun p hp => ?_, i3⟩
    · show nmL d k nm m (i + 1) (up2 A 36 (ex A d k (2 + i)) (nm i)) 36 j = _
      rw [i1, ee]
      by_cases c : j = 6080 + r * 274 + (34 + k % 8 * 30 + (2 + i))
      · rw [if_neg (by omega), c, up2_s, if_pos (by omega)]
        congr 1
        omega
      · rw [up2_j c]
        by_cases e : 6080 + r * 274 + (34 + k % 8 * 30 + 2) + (i + 1) ≤ j ∧ j < 6080 + r * 274 + (34 + k % 8 * 30 + 2) + (i + 1) + m
        · rw [if_pos e, if_pos (by omega)]
        · rw [if_neg e, if_neg (by omega)]
    · show nmL d k nm m (i + 1) (up2 A 36 (ex A d k (2 + i)) (nm i)) p = _
      rw [i2 p hp, up2_rown hp]
/-- an entry as the reference sets it -/
theorem add2_r {d k r many v : Nat} {nm : Nat → Nat} (hd : d < 64) (hk : k / 8 < 1064) (hr : r < 2000) (h : hasA A d (k / 8) = r + 1) (hm : many ≤ 28) : (∀ j, add2 A d k nm many v 36 j = if j = 6080 + r * 274 + (34 + k % 8 * 30) then v else if 6080 + r * 274 + (34 + k % 8 * 30 + 2) ≤ j ∧ j < 6080 + r * 274 + (34 + k % 8 * 30 + 2) + many then nm (j - (6080 + r * 274 + (34 + k % 8 * 30 + 2))) else if j = 6080 + r * 274 + (34 + k % 8 * 30 + 1) then many else A 36 j) ∧
    (∀ b, add2 A d k nm many v 51 b = 0 ↔ b ≠ 34 + A 35 6 + r ∧ A 51 b = 0) ∧ (∀ p, p ≠ 36 → p ≠ 51 → add2 A d k nm many v p = A p) := by
  have e1 : ex A d k 1 = 6080 + r * 274 + (34 + k % 8 * 30 + 1) := by unfold ex; rw [h, show r + 1 - 1 = r by omega]
  have h1 : hasA (up2 A 36 (ex A d k 1) many) d (k / 8) = r + 1 := by
    rw [e1, has_ent (by omega) (by omega) hd hk]
    exact h
  obtain ⟨g1, g2, g3⟩ := nmL_r (nm := nm) hd hk hr many 0 (up2 A 36 (ex A d k 1) many) h1 (by omega)
  have e0' : ∀ (Z : tS), hasA Z d (k / 8) = r + 1 → ex Z d k 0 = 6080 + r * 274 + (34 + k % 8 * 30) := fun Z hZ => by unfold ex; rw [hZ, show r + 1 - 1 = r by omega, Nat.add_zero]
  have e0 := e0' _ g3
  unfold add2 putE
  rw [e0, g3, g2 35 (by decide), up2_o (show (35 : Nat) ≠ 36 by decide), show r + 1 - 1 = r by omega]
  refine ⟨fun j => ?_, fun b => ?_, fun p p0 p1 => by rw [up2_rown p1, up2_rown p0, g2 p p0, up2_rown p0]⟩
  · rw [up2_o (by decide)]
    by_cases c : j = 6080 + r * 274 + (34 + k % 8 * 30)
    · rw [c, up2_s, if_pos rfl]
    · rw [up2_j c, if_neg c, g1, e1]
      by_cases d : 6080 + r * 274 + (34 + k % 8 * 30 + 2) ≤ j ∧ j < 6080 + r * 274 + (34 + k % 8 * 30 + 2) + many
      · rw [if_pos (by omega), if_pos d]
      · rw [if_neg (by omega), if_neg d]
        by_cases e : j = 6080 + r * 274 + (34 + k % 8 * 30 + 1)
        · rw [e, up2_s, if_pos rfl]
        · rw [up2_j e, if_neg e]
  · by_cases c : b = 34 + A 35 6 + r
    · rw [c, up2_s]
      exact ⟨fun q => by omega, fun q => absurd rfl q.1⟩
    · rw [up2_j c, up2_o (by decide), g2 51 (by decide), up2_o (by decide)]
      exact ⟨fun q => ⟨c, q⟩, fun q => q.2⟩
/-- an entry set in both -/
theorem SR_set2 {d k o st l v r : Nat} (h : SR bi w C A) (hd : d < 64) (hk2 : nd A d 0 = 2) (hk : k / 8 < 1064) (hr : hasA A d (k / 8) = r + 1) (ho : o ≠ 11) (hl : l ≤ 28) (hc : ∀ i, i < l → C o (st + i) < 128) (hv : v < 64) : SR bi w (seE C d k o st l v) (add2 A d k (fun i => C o (st + i)) l v) := by
  obtain ⟨r', q1, rlt, hu, hw, hcl, h7⟩ := cell_c h hd (by omega) hk (by rw [hr]; omega)
  have er : r' = r := by omega
  subst er
  have r2 : r' < 2000 := by have := h.zm.1.2.2.2.1; omega
  obtain ⟨g1, g2, g3⟩ := add2_r (A := A) (nm := fun i => C o (st + i)) (v := v) (many := l) hd hk r2 hr hl
  have ec : clE C d k = 34 + r' := hcl
  obtain ⟨s1, s2, s3, s4⟩ := seN_r (c := 34 + r') (fr := k % 8 * 32) (st := st) (by omega) ho l 0 C h7 (by omega)
  generalize hY : seN1 (34 + r') (k % 8 * 32) o st 0 l C = Y at s1 s2 s3 s4
  have Y7 : 34 + r' < Y 10 7 := by rw [s3 10 (by decide)]; exact h7
  have Z7 : 34 + r' < sooC Y (34 + r') (k % 8 * 32 + 28) l 10 7 := by rw [soo_10]; exact Y7
  generalize hX : sooC (sooC Y (34 + r') (k % 8 * 32 + 28) l) (34 + r') (k % 8 * 32 + 29) v = X
  have soop : ∀ (Z : tS) c i v p, p ≠ 11 → sooC Z c i v p = Z p := fun Z c i v p hp => by
    unfold sooC
    split
    · rw [up2_rown hp]
    · rfl
  have Xp : ∀ p, p ≠ 11 → X p = C p := fun p hp => by rw [← hX, soop _ _ _ _ p hp, soop _ _ _ _ p hp, s3 p hp]
  have X11 : ∀ q, q < (34 + r') * 32 ∨ (34 + r') * 32 + 32 ≤ q → X 11 q = C 11 q := fun q hq => by rw [← hX, soo_x (by omega) hq, soo_x (by omega) hq, s2 q hq]
  have Xo : ∀ j, oW (X 11) (34 + r') j = if j = k % 8 * 32 + 29 then v else if j = k % 8 * 32 + 28 then l else if k % 8 * 32 ≤ j ∧ j < k % 8 * 32 + l then C o (st + (j - k % 8 * 32)) else oW (C 11) (34 + r') j := fun j => by
    rw [← hX, soo_oct ⟨by omega, Z7⟩, soo_oct ⟨by omega, Y7⟩, s1]
    by_cases c : j = k % 8 * 32 + 29
    · rw [if_pos c, if_pos c]
      omega
    · rw [if_neg c, if_neg c]
      by_cases e : j = k % 8 * 32 + 28
      · rw [if_pos e, if_pos e]
        omega
      · rw [if_neg e, if_neg e]
        by_cases f : k % 8 * 32 ≤ j ∧ j < k % 8 * 32 + l
        · rw [if_pos (by omega), if_pos f]
          have := hc (j - k % 8 * 32) (by omega)
          omega
        · rw [if_neg (by omega), if_neg f]
  have Xw : ∀ q, q < (34 + r') * 32 + k % 8 * 4 ∨ (34 + r') * 32 + k % 8 * 4 + 4 ≤ q → X 11 q = C 11 q := fun q hq => by
    have s5 := s4 q (by omega)
    rw [← hX]
    unfold sooC
    have t1 : ∀ (Z : tS) j v, Z 11 q = C 11 q → (q ≠ (34 + r') * 32 + j / 8) → (if 0 < 34 + r' ∧ 34 + r' < Z 10 7 then up2 Z 11 ((34 + r') * 32 + j / 8) v else Z) 11 q = C 11 q := fun Z j v hZ hj => by
      split
      · rw [up2_j hj]; exact hZ
      · exact hZ
    exact t1 _ _ _ (t1 _ _ _ s5 (by omega)) (by omega)
  have eS : seE C d k o st l v = touC X (34 + r') := by
    unfold seE
    rw [ec, hY, hX]
  have lt : ∀ {k' : Nat}, k' < 8 → _ := fun {k'} hk' => eZ_lt h.ok (r := r') (k := k') hk'
  have eO : ∀ k' i, k' < 8 → i < 30 → k' ≠ k % 8 → eZ (add2 A d k (fun i => C o (st + i)) l v) r' k' i = eZ A r' k' i := fun k' i a b c => by
    unfold eZ
    rw [g1, if_neg (by omega), if_neg (by omega), if_neg (by omega)]
  have tC : ∀ p, p ≠ 10 → p ≠ 15 → touC X (34 + r') p = X p := fun p a b => tou_o a b
  rw [eS]
  refine SR_ent h r2 hu (by rw [hw]; show k / 8 < 2000; omega) (by rw [hw]; exact hk2) (fun j hj => by rw [g1, if_neg (by omega), if_neg (by omega), if_neg (by omega)]) ⟨fun j => ?_, fun b => ?_, fun p p0 p1 p2 => by rw [tC p p0 p2, Xp p p1], fun q hq => by rw [tou_10 hq, Xp 10 (by decide)], g3, ?_⟩ (fun q hq => by rw [tC 11 (by decide) (by decide), X11 q hq]) (fun k' hk' => ?_) (fun j => ?_)
  · rw [tou_15 (by omega) (by rw [Xp 10 (by decide)]; exact h7), Xp 15 (by decide)]
  · rw [g2, show nbA A (34 + r') = 34 + A 35 6 + r' by unfold nbA; rw [if_neg (by omega)]; omega]
  · refine ci_tou ?_
    rw [← hX, ← hY]
    exact ci_soo (ci_soo (ci_se1 _ _ _ h.rk.1))
  · rw [tC 11 (by decide) (by decide)]
    by_cases c : k' = k % 8
    · have z0 : eZ (add2 A d k (fun i => C o (st + i)) l v) r' k' 0 = v := by
        unfold eZ
        rw [g1, if_pos (by rw [c]; rfl)]
      have z1 : eZ (add2 A d k (fun i => C o (st + i)) l v) r' k' 1 = l := by
        unfold eZ
        rw [g1, if_neg (by omega), if_neg (by omega), if_pos (by rw [c])]
      have z2 : ∀ i, i < l → eZ (add2 A d k (fun i => C o (st + i)) l v) r' k' (2 + i) = C o (st + i) := fun i hi => by
        unfold eZ
        rw [g1, if_neg (by omega), if_pos (by omega)]
        congr 2
        omega
      unfold EW
      rw [z0, z1]
      refine ⟨fun q => by omega, fun _ => ⟨?_, ?_, fun i hi => ?_⟩⟩
      · rw [Xo, if_neg (by omega), if_pos (by omega)]
      · rw [Xo, if_pos (by omega)]
      · rw [Xo, if_neg (by omega), if_neg (by omega), if_pos (by omega), z2 i hi, show k' * 32 + i - k % 8 * 32 = i by omega]
    · have old := (h.mr.2.2.2 r' r2 hu).2 (by rw [hw]; show k / 8 < 2000; omega) (by rw [hw]; exact hk2) k' hk'
      obtain ⟨o1, o2⟩ := old
      unfold EW
      rw [eO k' 0 hk' (by omega) c, eO k' 1 hk' (by omega) c]
      have lt1 := (lt hk').2.1
      refine ⟨fun q i hi => ?_, fun q => ?_⟩
      · rw [Xw _ (by omega)]
        exact o1 q i hi
      · obtain ⟨y1, y2, y3⟩ := o2 q
        have nn : ∀ i, i < 30 → oW (X 11) (34 + r') (k' * 32 + i) = oW (C 11) (34 + r') (k' * 32 + i) := fun i hi => by rw [Xo, if_neg (by omega), if_neg (by omega), if_neg (by omega)]
        exact ⟨by rw [nn 28 (by omega)]; exact y1, by rw [nn 29 (by omega)]; exact y2, fun i hi => by rw [nn i (by omega), eO k' (2 + i) hk' (by omega) c]; exact y3 i hi⟩
  · have oj := h.ok j
    rw [g1]
    have bt : ∀ i, i < 30 → bT (6080 + r' * 274 + (34 + k % 8 * 30 + i)) = if i = 0 then 65 else if i = 1 then 29 else 128 := fun i hi => by
      unfold bT
      rw [if_neg (by omega), show (6080 + r' * 274 + (34 + k % 8 * 30 + i) - 6080) % 274 = 34 + k % 8 * 30 + i by omega]
      unfold bR
      rw [if_neg (by omega), if_neg (by omega), if_neg (by omega), show (34 + k % 8 * 30 + i - 34) % 30 = i by omega]
    by_cases c : j = 6080 + r' * 274 + (34 + k % 8 * 30)
    · rw [if_pos c, c]
      have := bt 0 (by omega)
      rw [Nat.add_zero, if_pos rfl] at this
      rw [this]
      omega
    · rw [if_neg c]
      by_cases e : 6080 + r' * 274 + (34 + k % 8 * 30 + 2) ≤ j ∧ j < 6080 + r' * 274 + (34 + k % 8 * 30 + 2) + l
      · rw [if_pos e]
        have := bt (j - (6080 + r' * 274 + (34 + k % 8 * 30))) (by omega)
        rw [show 6080 + r' * 274 + (34 + k % 8 * 30 + (j - (6080 + r' * 274 + (34 + k % 8 * 30)))) = j by omega, if_neg (by omega), if_neg (by omega)] at this
        rw [this]
        exact hc _ (by omega)
      · rw [if_neg e]
        by_cases f : j = 6080 + r' * 274 + (34 + k % 8 * 30 + 1)
        · rw [if_pos f, f, bt 1 (by omega), if_neg (by decide), if_pos rfl]
          omega
        · rw [if_neg f]
          exact oj
end SRP
