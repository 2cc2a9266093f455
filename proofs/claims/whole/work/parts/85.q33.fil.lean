/-! ===== PURE: bytes filled, in both: all blocks ===== -/
section SRX
variable {bi : Nat → Nat} {w : Nat → Nat × Nat} {C A B X : tS} {n : Nat}
theorem SR_stS {at_ len v : Nat} (hn : n < 64) (hv : v < 256) (h1 : 1 ≤ len) (ha : at_ + len ≤ 272384) : ∀ m x k (C A : tS), SR bi w C A → nd A n 0 = 1 → x + m = (at_ + len - 1) / 256 + 1 → (m = 0 → len ≤ k) → (m ≠ 0 → k < len ∧ (at_ + k) / 256 = x) → (k = 0 ∨ (at_ + k) % 256 = 0 ∨ m = 0) → (∀ j, x ≤ j → j < x + m → hasA A n j ≠ 0) → SR bi w (stS n at_ len v x m C) (wbA n at_ (fun _ => v) k (len - k) A) ∧ ∀ p, p ≠ 47 → p ≠ 48 → wbA n at_ (fun _ => v) k (len - k) A p = A p
  | 0, x, k, C, A, h, _, _, h0, _, _, _ => by
    have := h0 rfl
    rw [show len - k = 0 by omega]
    exact ⟨h, fun _ _ _ => rfl⟩
  | m + 1, x, k, C, A, h, hk, hx, _, h2, h3, hh => by
    obtain ⟨k1, k2⟩ := h2 (by omega)
    have x1 : x < 1064 := by omega
    obtain ⟨r, hr, rlt, hu, hw, hcl, h7⟩ := cell_c h hn (by omega) x1 (hh x (Nat.le_refl _) (by omega))
    have e0 : sS0 at_ x = (at_ + k) % 256 := by
      unfold sS0
      split <;> omega
    obtain ⟨l, hl⟩ : ∃ l, sS1 at_ len x - sS0 at_ x = l := ⟨_, rfl⟩
    have el : l = if at_ + len ≤ x * 256 + 256 then len - k else 256 - (at_ + k) % 256 := by
      rw [← hl, e0]
      unfold sS1
      split <;> omega
    have l1 : 1 ≤ l ∧ (at_ + k) % 256 + l ≤ 256 ∧ l ≤ len - k := by
      rw [el]
      split <;> omega
    have G := SR_blk (off := at_) (v := v) (k := k) (l := l) h hn hk (by omega) (by rw [k2]; exact hr) l1.2.1 l1.1 hv
    obtain ⟨b1, b2, b3, b4⟩ := wb_blk (n := n) (off := at_) (v := v) (r := r) l k A (by rw [k2]; exact hr) l1.2.1
    show SR bi w (stS n at_ len v (x + 1) m (soiC (spnC (ptC C n x % 2048) v (sS0 at_ x) (sS1 at_ len x - sS0 at_ x) C) (ptC C n x % 2048))) _ ∧ _
    rw [hcl, hl, e0, show len - k = l + (len - (k + l)) by omega, wb_add l k (len - (k + l)) A]
    have hA : ∀ y, hasA (wbA n at_ (fun _ => v) k l A) n y = hasA A n y := fun y => by
      unfold hasA leafA pt nd
      rw [b4 36 (by decide) (by decide)]
    have hk' : nd (wbA n at_ (fun _ => v) k l A) n 0 = 1 := by
      unfold nd
      rw [b4 36 (by decide) (by decide)]
      exact hk
    have c1 : m = 0 → len ≤ k + l := fun q => by
      rw [el, if_pos (by omega)]
      omega
    have c2 : m ≠ 0 → k + l < len ∧ (at_ + (k + l)) / 256 = x + 1 := fun q => by
      rw [el, if_neg (by omega)]
      omega
    have c3 : k + l = 0 ∨ (at_ + (k + l)) % 256 = 0 ∨ m = 0 := by
      by_cases q : m = 0
      · exact Or.inr (Or.inr q)
      · refine Or.inr (Or.inl ?_)
        rw [el, if_neg (by omega)]
        omega
    obtain ⟨i1, i2⟩ := SR_stS (at_ := at_) (len := len) (v := v) hn hv h1 ha m (x + 1) (k + l) _ _ G hk' (by omega) c1 c2 c3 (fun j a b => by rw [hA]; exact hh j (by omega) (by omega))
    exact ⟨i1, fun p a b => by rw [i2 p a b, b4 p a b]⟩
end SRX
