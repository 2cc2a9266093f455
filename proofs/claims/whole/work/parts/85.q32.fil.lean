/-! ===== PURE: bytes filled, in both ===== -/
section SRW
variable {bi : Nat → Nat} {w : Nat → Nat × Nat} {C A B X : tS} {n : Nat}
theorem wb_add {off : Nat} {tx : Nat → Nat} : ∀ m k l (A : tS), wbA n off tx k (m + l) A = wbA n off tx (k + m) l (wbA n off tx k m A)
  | 0, k, l, A => by rw [Nat.zero_add]; rfl
  | m + 1, k, l, A => by
    rw [show m + 1 + l = (m + l) + 1 by omega]
    show wbA n off tx (k + 1) (m + l) _ = wbA n off tx (k + (m + 1)) l (wbA n off tx (k + 1) m _)
    rw [wb_add m (k + 1) l, show k + 1 + m = k + (m + 1) by omega]
/-- bytes within one block -/
theorem wb_blk {off v r : Nat} : ∀ l k (A : tS), hasA A n ((off + k) / 256) = r + 1 → (off + k) % 256 + l ≤ 256 → (∀ q, wbA n off (fun _ => v) k l A 47 q = if 256 * r + (off + k) % 256 ≤ q ∧ q < 256 * r + (off + k) % 256 + l then v else A 47 q) ∧ (∀ q, q ≠ r → wbA n off (fun _ => v) k l A 48 q = A 48 q) ∧ (l ≠ 0 ∨ A 48 r ≠ 0 → wbA n off (fun _ => v) k l A 48 r ≠ 0) ∧ (∀ p, p ≠ 47 → p ≠ 48 → wbA n off (fun _ => v) k l A p = A p)
  | 0, k, A, _, _ => ⟨fun q => by rw [if_neg (by omega)]; rfl, fun _ _ => rfl, fun q => by rcases q with q | q; exact absurd rfl q; exact q, fun _ _ _ => rfl⟩
  | l + 1, k, A, hr, hl => by
    have step : wbA n off (fun _ => v) k (l + 1) A = wbA n off (fun _ => v) (k + 1) l (up2 (up2 A 47 (256 * r + (off + k) % 256) v) 48 r 1) := by
      show wbA n off (fun _ => v) (k + 1) l (up2 (up2 A 47 (256 * (hasA A n ((off + k) / 256) - 1) + (off + k) % 256) v) 48 (hasA A n ((off + k) / 256) - 1) 1) = _
      rw [hr, show r + 1 - 1 = r by omega]
    rw [step]
    generalize hY : up2 (up2 A 47 (256 * r + (off + k) % 256) v) 48 r 1 = Y
    have Yo : ∀ p, p ≠ 47 → p ≠ 48 → Y p = A p := fun p a b => by rw [← hY, up2_rown b, up2_rown a]
    have ha : ∀ x, hasA Y n x = hasA A n x := fun x => by
      unfold hasA leafA pt nd
      rw [Yo 36 (by decide) (by decide)]
    have y48 : Y 48 r ≠ 0 := by rw [← hY, up2_s]; decide
    by_cases z : l = 0
    · subst z
      refine ⟨fun q => ?_, fun q hq => ?_, fun _ => y48, Yo⟩
      · show Y 47 q = _
        rw [← hY, up2_o (by decide)]
        by_cases c : q = 256 * r + (off + k) % 256
        · rw [c, up2_s, if_pos (by omega)]
        · rw [up2_j c, if_neg (by omega)]
      · show Y 48 q = _
        rw [← hY, up2_j hq, up2_o (by decide)]
    · obtain ⟨i1, i2, i3, i4⟩ := wb_blk (off := off) (v := v) (r := r) l (k + 1) Y (by rw [ha, show (off + (k + 1)) / 256 = (off + k) / 256 by omega]; exact hr) (by omega)
      have em : (off + (k + 1)) % 256 = (off + k) % 256 + 1 := by omega
      refine ⟨fun q => ?_, fun q hq => by rw [i2 q hq, ← hY, up2_j hq, up2_o (by decide)], fun _ => i3 (Or.inr y48), fun p a b => by rw [i4 p a b, Yo p a b]⟩
      rw [i1, em, ← hY, up2_o (by decide)]
      by_cases c : q = 256 * r + (off + k) % 256
      · rw [if_neg (by omega), c, up2_s, if_pos (by omega)]
      · rw [up2_j c]
        by_cases e : 256 * r + ((off + k) % 256 + 1) ≤ q ∧ q < 256 * r + ((off + k) % 256 + 1) + l
        · rw [if_pos e, if_pos (by omega)]
        · rw [if_neg e, if_neg (by omega)]
theorem SR_blk {off v r k l : Nat} (h : SR bi w C A) (hn : n < 64) (hk : nd A n 0 = 1) (hx : (off + k) / 256 < 1064) (hr : hasA A n ((off + k) / 256) = r + 1) (hl : (off + k) % 256 + l ≤ 256) (h1 : 1 ≤ l) (hv : v < 256) : SR bi w (soiC (spnC (34 + r) v ((off + k) % 256) l C) (34 + r)) (wbA n off (fun _ => v) k l A) := by
  obtain ⟨r', q1, rlt, hu, hw, hcl, h7⟩ := cell_c h hn (by omega) hx (by rw [hr]; omega)
  have er : r' = r := by omega
  subst er
  have r2 : r' < 2000 := by have := h.zm.1.2.2.2.1; omega
  have fb := h.fb r' r2 hu (by rw [hw]; show (off + k) / 256 < 2000; omega) (by rw [hw]; exact hk)
  obtain ⟨b1, b2, b3, b4⟩ := wb_blk (v := v) l k A hr hl
  generalize hY : spnC (34 + r') v ((off + k) % 256) l C = Y
  have Yo : ∀ p, p ≠ 11 → Y p = C p := fun p hp => by rw [← hY, spn_o hp]
  obtain ⟨s1, s2, s3, s4⟩ := soi_r (C := Y) (c := 34 + r') (by omega) (by rw [Yo 10 (by decide)]; exact h7)
  refine SR_byt h r2 hu (by rw [hw]; show (off + k) / 256 < 2000; omega) (by rw [hw]; exact hk) b4 (fun q hq => by rw [b1, if_neg (by omega)]) b2 (fun p a b c => by rw [s1 p a c, Yo p b]) (fun q hq => by rw [s2 q hq, Yo 10 (by decide)]) (fun q hq => by rw [s1 11 (by decide) (by decide), ← hY, spn_11 hq _ _ _ (by omega)]) (fun k hk => by rw [s4 k hk, Yo 17 (by decide)]) ⟨fun q => absurd q s3, fun q => absurd q (b3 (Or.inl (by omega)))⟩ (ci_soi (by rw [← hY]; exact ci_spn _ _ _ h.rk.1)) ?_
  intro j hj
  have e := spn_oct (c := 34 + r') (v := v) l ((off + k) % 256) C j ⟨by omega, h7⟩
  rw [hY] at e
  show by8 (soiC Y (34 + r') 11 ((34 + r') * 32 + j / 8)) (j % 8) = wbA n off (fun _ => v) k l A 47 (256 * r' + j)
  rw [s1 11 (by decide) (by decide), b1]
  have e2 : by8 (Y 11 ((34 + r') * 32 + j / 8)) (j % 8) = oW (Y 11) (34 + r') j := rfl
  rw [e2, e]
  by_cases d : (off + k) % 256 ≤ j ∧ j < (off + k) % 256 + l
  · rw [if_pos d, if_pos (by omega)]
    omega
  · rw [if_neg d, if_neg (by omega)]
    exact fb j hj
end SRW
