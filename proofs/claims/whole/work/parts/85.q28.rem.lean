/-! ===== PURE: an entry removed, in both ===== -/
section SRR
variable {bi : Nat → Nat} {w : Nat → Nat × Nat} {C A B X : tS} {W V : Nat → Nat} {n s i : Nat} {me : Bool}
theorem rm4_r {c k : Nat} (hc : 0 < c) : ∀ m i (C : tS), ci C → c < C 10 7 → (∀ q, rm4 c k i m C 11 q = if c * 32 + (k % 8 * 4 + i) ≤ q ∧ q < c * 32 + (k % 8 * 4 + i) + m then 0 else C 11 q) ∧ (∀ j, rm4 c k i m C 15 j = 0 ↔ (m ≠ 0 → j ≠ c) ∧ C 15 j = 0) ∧ (∀ p, p ≠ 10 → p ≠ 11 → p ≠ 15 → rm4 c k i m C p = C p) ∧ (∀ q, q ≠ 11 → rm4 c k i m C 10 q = C 10 q) ∧ ci (rm4 c k i m C)
  | 0, i, C, h, _ => ⟨fun q => by rw [if_neg (by omega)]; rfl, fun j => ⟨fun q => ⟨fun y => absurd rfl y, q⟩, fun q => q.2⟩, fun _ _ _ _ => rfl, fun _ _ => rfl, h⟩
  | m + 1, i, C, h, h7 => by
    have es : swoC C c (k % 8 * 4 + i) 0 = touC (up2 C 11 (c * 32 + (k % 8 * 4 + i)) 0) c := by
      unfold swoC
      rw [if_pos ⟨hc, h7⟩]
    have hci : ci (swoC C c (k % 8 * 4 + i) 0) := by rw [es]; exact ci_tou (ci_11 h)
    obtain ⟨i1, i2, i3, i4, i5⟩ := rm4_r hc m (i + 1) (swoC C c (k % 8 * 4 + i) 0) hci (by rw [swo_10 (by decide)]; exact h7)
    refine ⟨fun q => ?_, fun j => ?_, fun p p0 p1 p2 => ?_, fun q hq => ?_, i5⟩
    · show rm4 c k (i + 1) m (swoC C c (k % 8 * 4 + i) 0) 11 q = _
      rw [i1, es, tou_o (by decide) (by decide)]
      by_cases d : q = c * 32 + (k % 8 * 4 + i)
      · rw [if_neg (by omega), d, up2_s, if_pos (by omega)]
      · rw [up2_j d]
        by_cases e : c * 32 + (k % 8 * 4 + (i + 1)) ≤ q ∧ q < c * 32 + (k % 8 * 4 + (i + 1)) + m
        · rw [if_pos e, if_pos (by omega)]
        · rw [if_neg e, if_neg (by omega)]
    · show rm4 c k (i + 1) m (swoC C c (k % 8 * 4 + i) 0) 15 j = 0 ↔ _
      rw [i2, es, tou_15 hc (by rw [up2_o (by decide)]; exact h7), up2_o (by decide)]
      exact ⟨fun q => ⟨fun _ => q.2.1, q.2.2⟩, fun q => ⟨fun _ => q.1 (by omega), q.1 (by omega), q.2⟩⟩
    · show rm4 c k (i + 1) m (swoC C c (k % 8 * 4 + i) 0) p = _
      rw [i3 p p0 p1 p2, swo_o p0 p1 p2]
    · show rm4 c k (i + 1) m (swoC C c (k % 8 * 4 + i) 0) 10 q = _
      rw [i4 q hq, swo_10 hq]
/-- an entry cleared in both -/
theorem SR_clr {d k r : Nat} (h : SR bi w C A) (hd : d < 64) (hk2 : nd A d 0 = 2) (hk : k / 8 < 1064) (hr : hasA A d (k / 8) = r + 1) : SR bi w (rm4 (clE C d k) k 0 4 C) (putE A d k 64) ∧ (∀ r' k' i, r' < 2000 → k' < 8 → i < 30 → eZ (putE A d k 64) r' k' i = if r' = r ∧ k' = k % 8 ∧ i = 0 then 64 else eZ A r' k' i) ∧ (∀ n' j, n' < 64 → j < 95 → nd (putE A d k 64) n' j = nd A n' j) ∧ (∀ n' s', n' < 64 → vs s' → slo (putE A d k 64) n' s' = slo A n' s') ∧ (∀ p, p ≠ 36 → p ≠ 51 → putE A d k 64 p = A p) := by
  obtain ⟨r', q1, rlt, hu, hw, hcl, h7⟩ := cell_c h hd (by omega) hk (by rw [hr]; omega)
  have er : r' = r := by omega
  subst er
  have r2 : r' < 2000 := by have := h.zm.1.2.2.2.1; omega
  have ec : clE C d k = 34 + r' := hcl
  have ee : ex A d k 0 = 6080 + r' * 274 + (34 + k % 8 * 30) := by
    unfold ex
    rw [hr, show r' + 1 - 1 = r' by omega, Nat.add_zero]
  have g1 : ∀ j, putE A d k 64 36 j = if j = 6080 + r' * 274 + (34 + k % 8 * 30) then 64 else A 36 j := fun j => by
    unfold putE
    rw [up2_o (by decide), ee]
    by_cases c : j = 6080 + r' * 274 + (34 + k % 8 * 30)
    · rw [c, up2_s, if_pos rfl]
    · rw [up2_j c, if_neg c]
  have g2 : ∀ b, putE A d k 64 51 b = 0 ↔ b ≠ 34 + A 35 6 + r' ∧ A 51 b = 0 := fun b => by
    unfold putE
    rw [hr, show r' + 1 - 1 = r' by omega]
    by_cases c : b = 34 + A 35 6 + r'
    · rw [c, up2_s]
      exact ⟨fun q => by omega, fun q => absurd rfl q.1⟩
    · rw [up2_j c, up2_o (by decide)]
      exact ⟨fun q => ⟨c, q⟩, fun q => q.2⟩
  have g3 : ∀ p, p ≠ 36 → p ≠ 51 → putE A d k 64 p = A p := fun p p0 p1 => by
    unfold putE
    rw [up2_rown p1, up2_rown p0]
  have z : ∀ r k' i, r < 2000 → k' < 8 → i < 30 → eZ (putE A d k 64) r k' i = if r = r' ∧ k' = k % 8 ∧ i = 0 then 64 else eZ A r k' i := fun r k' i a b c => by
    unfold eZ
    rw [g1]
    by_cases e : r = r' ∧ k' = k % 8 ∧ i = 0
    · rw [if_pos e, if_pos (by rw [e.1, e.2.1, e.2.2]; rfl)]
    · rw [if_neg e, if_neg]
      intro q
      obtain ⟨o, ho, o1, o2⟩ : ∃ o, 34 + k' * 30 + i = o ∧ 34 ≤ o ∧ o < 274 := ⟨_, rfl, by omega, by omega⟩
      obtain ⟨o', ho', o1', o2'⟩ : ∃ o, 34 + k % 8 * 30 = o ∧ 34 ≤ o ∧ o < 274 := ⟨_, rfl, by omega, by omega⟩
      rw [ho, ho'] at q
      have e1 : r = r' := by omega
      have e2 : o = o' := by omega
      exact e ⟨e1, by omega, by omega⟩
  have nn : ∀ n' j, n' < 64 → j < 95 → nd (putE A d k 64) n' j = nd A n' j := fun n' j a b => by
    unfold nd
    rw [g1, if_neg (by omega)]
  have pp : ∀ r k', k' < 32 → pt (putE A d k 64) r k' = pt A r k' := fun r k' hk' => by
    unfold pt
    obtain ⟨o', ho', o1', o2'⟩ : ∃ o, 34 + k % 8 * 30 = o ∧ 34 ≤ o ∧ o < 274 := ⟨_, rfl, by omega, by omega⟩
    have ne : ¬ 6080 + r * 274 + (2 + k') = 6080 + r' * 274 + o' := by
      intro q
      by_cases c : r = r'
      · rw [c] at q
        omega
      · by_cases c2 : r < r'
        · omega
        · omega
    rw [g1, ho', if_neg ne]
  rw [ec]
  obtain ⟨s1, s2, s3, s4, s5⟩ := rm4_r (c := 34 + r') (k := k) (by omega) 4 0 C h.rk.1 h7
  refine ⟨SR_ent h r2 hu (by rw [hw]; show k / 8 < 2000; omega) (by rw [hw]; exact hk2) (fun j hj => by rw [g1, if_neg (by omega)]) ⟨fun j => ?_, fun b => ?_, s3, s4, g3, s5⟩ (fun q hq => by rw [s1, if_neg (by omega)]) (fun k' hk' => ?_) (fun j => ?_), z, nn, fun n' s' a b => slo_cong (fun n' i a _ c => nn n' i a c) pp a b, g3⟩
  · rw [s2]
    exact ⟨fun q => ⟨q.1 (by decide), q.2⟩, fun q => ⟨fun _ => q.1, q.2⟩⟩
  · rw [g2, show nbA A (34 + r') = 34 + A 35 6 + r' by unfold nbA; rw [if_neg (by omega)]; omega]
  · by_cases c : k' = k % 8
    · have z0 : eZ (putE A d k 64) r' k' 0 = 64 := by rw [z r' k' 0 r2 hk' (by omega), if_pos ⟨rfl, c, rfl⟩]
      unfold EW
      rw [z0]
      exact ⟨fun _ i hi => by rw [s1, if_pos (by omega)], fun q => absurd rfl q⟩
    · have old := (h.mr.2.2.2 r' r2 hu).2 (by rw [hw]; show k / 8 < 2000; omega) (by rw [hw]; exact hk2) k' hk'
      have lt1 := (eZ_lt h.ok (r := r') hk').2.1
      obtain ⟨o1, o2⟩ := old
      have eO : ∀ i, i < 30 → eZ (putE A d k 64) r' k' i = eZ A r' k' i := fun i hi => by rw [z r' k' i r2 hk' hi, if_neg (fun q => c q.2.1)]
      have wn : ∀ i, i < 4 → rm4 (34 + r') k 0 4 C 11 ((34 + r') * 32 + (k' * 4 + i)) = C 11 ((34 + r') * 32 + (k' * 4 + i)) := fun i hi => by rw [s1, if_neg (by omega)]
      have nb : ∀ i, i < 32 → oW (rm4 (34 + r') k 0 4 C 11) (34 + r') (k' * 32 + i) = oW (C 11) (34 + r') (k' * 32 + i) := fun i hi => by
        refine oW_e ?_ rfl
        have := wn (i / 8) (by omega)
        rwa [show (34 + r') * 32 + (k' * 4 + i / 8) = (34 + r') * 32 + (k' * 32 + i) / 8 by omega] at this
      unfold EW
      rw [eO 0 (by omega), eO 1 (by omega)]
      refine ⟨fun q i hi => ?_, fun q => ?_⟩
      · have := wn i hi
        rw [show (34 + r') * 32 + k' * 4 + i = (34 + r') * 32 + (k' * 4 + i) by omega, this, ← show (34 + r') * 32 + k' * 4 + i = (34 + r') * 32 + (k' * 4 + i) by omega]
        exact o1 q i hi
      · obtain ⟨y1, y2, y3⟩ := o2 q
        exact ⟨by rw [nb 28 (by omega)]; exact y1, by rw [nb 29 (by omega)]; exact y2, fun i hi => by rw [nb i (by omega), eO (2 + i) (by omega)]; exact y3 i hi⟩
  · rw [g1]
    by_cases c : j = 6080 + r' * 274 + (34 + k % 8 * 30)
    · rw [if_pos c, c]
      unfold bT
      rw [if_neg (by omega), show (6080 + r' * 274 + (34 + k % 8 * 30) - 6080) % 274 = 34 + k % 8 * 30 by omega]
      unfold bR
      rw [if_neg (by omega), if_neg (by omega), if_neg (by omega), if_pos (by omega)]
      decide
    · rw [if_neg c]
      exact h.ok j
end SRR
