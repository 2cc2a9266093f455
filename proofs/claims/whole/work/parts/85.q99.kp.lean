/-! ===== PURE: what the reference's steps on blocks leave as it is ===== -/
/-- kinds, names, parents, texts and entries stay; so do the disk, the journal, paths and handles -/
def KP (A B : tS) : Prop := (∀ j, (j < 6080 ∧ j % 95 ≠ 1 ∧ j % 95 < 85) ∨ (6080 ≤ j ∧ 34 ≤ (j - 6080) % 274) → B 36 j = A 36 j) ∧ (∀ o, o ≠ 35 → o ≠ 36 → ¬ (47 ≤ o ∧ o ≤ 52) → B o = A o) ∧ (∀ q, q ≠ 34 → B 35 q = A 35 q) ∧ A 35 34 ≤ B 35 34
section KPS
variable {A B X : tS} {n i r k v w m : Nat} {me : Bool}
theorem KP_r : KP A A := ⟨fun _ _ => rfl, fun _ _ _ _ => rfl, fun _ _ => rfl, Nat.le_refl _⟩
theorem KP_t (h : KP A B) (g : KP B X) : KP A X := ⟨fun j q => by rw [g.1 j q, h.1 j q], fun o a b c => by rw [g.2.1 o a b c, h.2.1 o a b c], fun q a => by rw [g.2.2.1 q a, h.2.2.1 q a], Nat.le_trans h.2.2.2 g.2.2.2⟩
theorem KP_up {o j x : Nat} (ho : 47 ≤ o ∧ o ≤ 52) : KP A (up2 A o j x) := ⟨fun j' _ => up2_o (by omega), fun o' _ _ c => up2_rown (by omega), fun q _ => up2_o (by omega), by rw [up2_o (by omega)]; exact Nat.le_refl _⟩
theorem KP_36 {j x : Nat} (hj : ¬ ((j < 6080 ∧ j % 95 ≠ 1 ∧ j % 95 < 85) ∨ (6080 ≤ j ∧ 34 ≤ (j - 6080) % 274))) : KP A (up2 A 36 j x) := ⟨fun j' q => up2_j (fun e => hj (e ▸ q)), fun o' _ b _ => up2_rown b, fun q _ => up2_o (by decide), by rw [up2_o (by decide)]; exact Nat.le_refl _⟩
theorem KP_N (hn : n < 64) (hw : w = 1 ∨ (85 ≤ w ∧ w < 95)) : KP A (setN A n w v) := KP_t (KP_36 (by omega)) (KP_up (by omega))
theorem KP_P (hk : k < 32) : KP A (setP A r k v) := KP_t (KP_36 (by omega)) (KP_up (by omega))
theorem KP_fl {o x a c : Nat} (ho : 47 ≤ o ∧ o ≤ 52) : KP A (fl o x a c A) := ⟨fun j' _ => by rw [fl_row (by omega)], fun o' _ _ q => fl_row (by omega) _ _ _, fun q _ => by rw [fl_row (by omega)], by rw [fl_row (by omega)]; exact Nat.le_refl _⟩
theorem KP_free : KP A (freeA A r me) := by
  unfold freeA
  have h : KP A (up2 (up2 (up2 (up2 A 36 (6080 + r * 274) 0) 51 1 1) 49 r 1) 48 r 0) := KP_t (KP_36 (by omega)) (KP_t (KP_up (by omega)) (KP_t (KP_up (by omega)) (KP_up (by omega))))
  cases me with
  | false => exact h
  | true => exact KP_t h (KP_t (KP_up (by omega)) (KP_up (by omega)))
theorem KP_34 : KP A (up2 A 35 34 (A 35 34 + 1)) := ⟨fun j' _ => up2_o (by decide), fun o' a _ _ => up2_rown a, fun q a => up2_j a, by rw [up2_s]; omega⟩
theorem KP_get : KP A (getA A r me) := by
  unfold getA
  have h : KP A (up2 (up2 (up2 (up2 A 35 34 (A 35 34 + 1)) 36 (6080 + r * 274) 1) 36 (6080 + r * 274 + 1) (A 35 34 + 1)) 51 1 1) := KP_t KP_34 (KP_t (KP_36 (by omega)) (KP_t (KP_36 (by omega)) (KP_up (by omega))))
  refine KP_t ?_ (KP_t (KP_fl (by omega)) (KP_up (by omega)))
  cases me with
  | false => exact h
  | true => exact KP_t h (KP_up (by omega))
theorem KP_attN (hn : n < 64) (hw : 85 ≤ w ∧ w < 95) : KP A (attN A n w me) := KP_t KP_get (KP_N hn (Or.inr hw))
theorem KP_attP (hk : k < 32) : KP A (attP A r k me) := KP_t KP_get (KP_P hk)
theorem pl_lt (h8 : 8 ≤ i) : plA i < 32 := by
  unfold plA
  split <;> omega
theorem KP_ens (hn : n < 64) (hi : i < 1064) : KP A (ensA A n i) := by
  have e1 : ∀ Y : tS, KP Y (ens1 Y n i) := fun Y => by
    unfold ens1
    split
    · exact KP_attN hn (by omega)
    · exact KP_r
  have e2 : ∀ Y : tS, KP Y (ens2 Y n i) := fun Y => by
    unfold ens2
    split
    · exact KP_attN hn (by omega)
    · exact KP_r
  have e3 : ∀ Y : tS, KP Y (ens3 Y n i) := fun Y => by
    unfold ens3
    split
    · exact KP_attP (by omega)
    · exact KP_r
  have e4 : ∀ Y : tS, KP Y (ens4 Y n i) := fun Y => by
    unfold ens4
    split
    · exact KP_attN hn (by omega)
    · exact KP_attP (pl_lt (by omega))
  unfold ensA
  split
  · exact KP_r
  · exact KP_t (B := up2 A 50 n 1) (KP_up (by omega)) (KP_t (e1 _) (KP_t (e2 _) (KP_t (e3 _) (e4 _))))
theorem KP_drop (hn : n < 64) (hi : i < 1064) : KP A (dropA A n i) := by
  have h1 : ∀ (Y : tS) d l, 40 ≤ i → KP Y (freeA (setP Y d ((i - 40) / 32) 0) l true) := fun Y d l _ => KP_t (KP_P (by omega)) KP_free
  have h2 : ∀ (Y : tS) d l, 40 ≤ i → KP Y (drop2 Y n i d l) := fun Y d l h => by
    unfold drop2
    split
    · exact KP_t (h1 Y d l h) (KP_t (KP_N hn (by omega)) KP_free)
    · exact h1 Y d l h
  have h3 : ∀ (Y : tS) l, KP Y (drop1 Y n i l) := fun Y l => by
    unfold drop1
    split
    · split
      · exact KP_t (KP_N hn (by omega)) KP_free
      · exact h2 Y _ l (by omega)
    · exact KP_r
  unfold dropA
  split
  · exact KP_r
  · split
    · exact KP_t (B := up2 A 50 n 1) (KP_up (by omega)) (KP_t (KP_N hn (by omega)) KP_free)
    · have h4 : KP A (setP (up2 A 50 n 1) (leafA A n i - 1) (plA i) 0) := KP_t (B := up2 A 50 n 1) (KP_up (by omega)) (KP_P (pl_lt (by omega)))
      exact KP_t h4 (KP_t KP_free (h3 _ _))
theorem KP_dd {sz : Nat} (hn : n < 64) : ∀ m (A : tS), m ≤ 1064 → KP A (dd n sz m A)
  | 0, _, _ => KP_r
  | m + 1, A, h => by
    unfold dd
    split
    · exact KP_r
    · exact KP_t (KP_drop hn (by omega)) (KP_dd hn m _ (by omega))
theorem KP_zt : ∀ m k (A : tS), KP A (zt r k m A)
  | 0, _, _ => KP_r
  | m + 1, k, A => by
    have h : KP A (if A 47 (256 * r + k) = 0 then A else up2 A 48 r 1) := by
      split
      · exact KP_r
      · exact KP_up (by omega)
    exact KP_t (KP_t h (KP_up (by omega))) (KP_zt m (k + 1) _)
theorem KP_zb : KP A (zb A n i) := by
  unfold zb
  split
  · exact KP_zt _ _ _
  · exact KP_r
theorem KP_sz {sz : Nat} (hn : n < 64) (hs : nd A n 1 ≤ 272384) : KP A (szA A n sz) := by
  unfold szA
  split
  · exact KP_N hn (Or.inl rfl)
  · split
    · exact KP_t (KP_N hn (Or.inl rfl)) (KP_t (KP_up (by omega)) KP_zb)
    · exact KP_t (KP_N hn (Or.inl rfl)) (KP_t (KP_up (by omega)) (KP_t KP_zb (KP_dd hn _ _ (by omega))))
theorem KP_enL (hn : n < 64) : ∀ m i (A : tS), i + m ≤ 1064 → KP A (enL n i m A)
  | 0, _, _, _ => KP_r
  | m + 1, i, A, h => by
    unfold enL
    exact KP_t (KP_ens hn (by omega)) (KP_enL hn m (i + 1) _ (by omega))
/-- what of the tree is told by these -/
theorem KP.nd (h : KP A B) {n j : Nat} (hn : n < 64) (hj : j < 85) (h1 : j ≠ 1) : nd B n j = nd A n j := h.1 _ (by omega)
theorem KP.ez (h : KP A B) (r : Nat) {k i : Nat} (hk : k < 8) (hi : i < 30) : eZ B r k i = eZ A r k i := by
  have e : (6080 + r * 274 + (34 + k * 30 + i) - 6080) % 274 = 34 + k * 30 + i := by
    rw [show 6080 + r * 274 + (34 + k * 30 + i) - 6080 = (34 + k * 30 + i) + 274 * r by omega, Nat.add_mul_mod_self_left]
    exact Nat.mod_eq_of_lt (by omega)
  exact h.1 (6080 + r * 274 + (34 + k * 30 + i)) (Or.inr ⟨by omega, by rw [e]; omega⟩)
end KPS
