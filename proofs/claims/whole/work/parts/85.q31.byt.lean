/-! ===== PURE: bytes stored from the tape, in both ===== -/
section SRV
variable {bi : Nat → Nat} {w : Nat → Nat × Nat} {C A B X : tS} {n : Nat}
theorem soi_r {c : Nat} (h0 : 0 < c) (h7 : c < C 10 7) : (∀ p, p ≠ 10 → p ≠ 17 → soiC C c p = C p) ∧ (∀ q, q ≠ 13 → soiC C c 10 q = C 10 q) ∧ soiC C c 17 c ≠ 0 ∧ ∀ k, k ≠ c → soiC C c 17 k = C 17 k := by
  unfold soiC
  by_cases d : C 17 c = 0
  · rw [if_pos ⟨h0, h7, d⟩]
    refine ⟨fun p a b => by rw [up2_rown a, up2_rown b], fun q hq => by rw [up2_j hq, up2_o (by decide)], by rw [up2_o (by decide), up2_s]; decide, fun k hk => by rw [up2_o (by decide), up2_j hk]⟩
  · rw [if_neg (fun q => d q.2.2)]
    exact ⟨fun _ _ _ => rfl, fun _ _ => rfl, d, fun _ _ => rfl⟩
/-- one byte -/
theorem SR_b1 {r x j v : Nat} (h : SR bi w C A) (hn : n < 64) (hk : nd A n 0 = 1) (hx : x < 1064) (hr : hasA A n x = r + 1) (hj : j < 256) (hv : v < 256) : SR bi w (soiC (sooC C (34 + r) j v) (34 + r)) (up2 (up2 A 47 (256 * r + j) v) 48 r 1) := by
  obtain ⟨r', q1, rlt, hu, hw, hcl, h7⟩ := cell_c h hn (by omega) hx (by rw [hr]; omega)
  have er : r' = r := by omega
  subst er
  have r2 : r' < 2000 := by have := h.zm.1.2.2.2.1; omega
  have fb := h.fb r' r2 hu (by rw [hw]; show x < 2000; omega) (by rw [hw]; exact hk)
  have sp : ∀ p, p ≠ 11 → sooC C (34 + r') j v p = C p := fun p hp => by
    unfold sooC
    split
    · rw [up2_rown hp]
    · rfl
  obtain ⟨s1, s2, s3, s4⟩ := soi_r (C := sooC C (34 + r') j v) (c := 34 + r') (by omega) (by rw [soo_10]; exact h7)
  refine SR_byt h r2 hu (by rw [hw]; show x < 2000; omega) (by rw [hw]; exact hk) (fun p a b => by rw [up2_rown b, up2_rown a]) (fun q hq => by rw [up2_o (by decide), up2_j (by omega)]) (fun q hq => by rw [up2_j hq, up2_o (by decide)]) (fun p a b c => by rw [s1 p a c, sp p b]) (fun q hq => by rw [s2 q hq, sp 10 (by decide)]) (fun q hq => by rw [s1 11 (by decide) (by decide), soo_x hj hq]) (fun k hk => by rw [s4 k hk, sp 17 (by decide)]) ⟨fun q => absurd q s3, fun q => by rw [up2_s] at q; omega⟩ (ci_soi (ci_soo h.rk.1)) ?_
  intro i hi
  show by8 (soiC (sooC C (34 + r') j v) (34 + r') 11 ((34 + r') * 32 + i / 8)) (i % 8) = up2 (up2 A 47 (256 * r' + j) v) 48 r' 1 47 (256 * r' + i)
  rw [s1 11 (by decide) (by decide), up2_o (by decide)]
  have e := soo_oct (C := C) (i := j) (c := 34 + r') (v := v) (j := i) ⟨by omega, h7⟩
  have e2 : by8 (sooC C (34 + r') j v 11 ((34 + r') * 32 + i / 8)) (i % 8) = oW (sooC C (34 + r') j v 11) (34 + r') i := rfl
  rw [e2, e]
  by_cases c : i = j
  · rw [if_pos c, c, up2_s]
    omega
  · rw [if_neg c, up2_j (by omega)]
    exact fb i hi
theorem SR_stT {at_ : Nat} {tx : Nat → Nat} (hn : n < 64) : ∀ m i ce (C A : tS), SR bi w C A → nd A n 0 = 1 → at_ + i + m ≤ 272384 → C 27 = tx → (∀ j, i ≤ j → j < i + m → hasA A n ((at_ + j) / 256) ≠ 0 ∧ tx j < 256) → ((at_ + i) % 256 ≠ 0 → m ≠ 0 → ce = ptC C n ((at_ + i) / 256) % 2048) → SR bi w (stT n at_ i m ce C) (wbA n at_ tx i m A) ∧ ∀ p, p ≠ 47 → p ≠ 48 → wbA n at_ tx i m A p = A p
  | 0, i, ce, C, A, h, _, _, _, _, _ => ⟨h, fun _ _ _ => rfl⟩
  | m + 1, i, ce, C, A, h, hk, hm, ht, hh, hce => by
    have hx : (at_ + i) / 256 < 1064 := by omega
    obtain ⟨h0, hv⟩ := hh i (Nat.le_refl _) (by omega)
    obtain ⟨r, hr, rlt, hu, hw, hcl, h7⟩ := cell_c h hn (by omega) hx h0
    have es : stc C n (at_ + i) ce = 34 + r := by
      unfold stc
      by_cases c : (at_ + i) % 256 = 0
      · rw [if_pos c, hcl]
      · rw [if_neg c, hce c (by omega), hcl]
    have G := SR_b1 (j := (at_ + i) % 256) (v := tx i) h hn hk hx hr (by omega) hv
    show SR bi w (stT n at_ (i + 1) m (stc C n (at_ + i) ce) (soiC (sooC C (stc C n (at_ + i) ce) ((at_ + i) % 256) (C 27 i)) (stc C n (at_ + i) ce))) (wbA n at_ tx (i + 1) m (up2 (up2 A 47 (256 * (hasA A n ((at_ + i) / 256) - 1) + (at_ + i) % 256) (tx i)) 48 (hasA A n ((at_ + i) / 256) - 1) 1)) ∧ ∀ p, p ≠ 47 → p ≠ 48 → wbA n at_ tx (i + 1) m (up2 (up2 A 47 (256 * (hasA A n ((at_ + i) / 256) - 1) + (at_ + i) % 256) (tx i)) 48 (hasA A n ((at_ + i) / 256) - 1) 1) p = A p
    rw [es, hr, show r + 1 - 1 = r by omega, ht]
    have Ao : ∀ p, p ≠ 47 → p ≠ 48 → up2 (up2 A 47 (256 * r + (at_ + i) % 256) (tx i)) 48 r 1 p = A p := fun p a b => by rw [up2_rown b, up2_rown a]
    have ha : ∀ x, hasA (up2 (up2 A 47 (256 * r + (at_ + i) % 256) (tx i)) 48 r 1) n x = hasA A n x := fun x => by
      unfold hasA leafA pt nd
      rw [Ao 36 (by decide) (by decide)]
    have hk' : nd (up2 (up2 A 47 (256 * r + (at_ + i) % 256) (tx i)) 48 r 1) n 0 = 1 := by
      unfold nd
      rw [Ao 36 (by decide) (by decide)]
      exact hk
    have c27 : soiC (sooC C (34 + r) ((at_ + i) % 256) (tx i)) (34 + r) 27 = tx := by
      rw [(soi_r (C := sooC C (34 + r) ((at_ + i) % 256) (tx i)) (c := 34 + r) (by omega) (by rw [soo_10]; exact h7)).1 27 (by decide) (by decide), ← ht]
      unfold sooC
      split
      · rw [up2_rown (by decide)]
      · rfl
    obtain ⟨i1, i2⟩ := SR_stT (at_ := at_) (tx := tx) hn m (i + 1) (34 + r) _ _ G hk' (by omega) c27 (fun j a b => by rw [ha]; exact hh j (by omega) (by omega)) (fun c _ => by
      obtain ⟨r', q1, -, -, -, q5, -⟩ := cell_c G hn (by omega) (show (at_ + (i + 1)) / 256 < 1064 by omega) (by rw [ha, show (at_ + (i + 1)) / 256 = (at_ + i) / 256 by omega]; exact h0)
      rw [ha, show (at_ + (i + 1)) / 256 = (at_ + i) / 256 by omega, hr] at q1
      rw [q5]
      omega)
    exact ⟨i1, fun p a b => by rw [i2 p a b, Ao p a b]⟩
end SRV
