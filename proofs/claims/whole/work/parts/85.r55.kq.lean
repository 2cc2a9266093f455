/-! ===== PURE: what the tree's methods leave ===== -/
/-- rows and numbers that a call on the tree leaves; at most x serials more -/
def KQ (x : Nat) (A B : tS) : Prop := (∀ o, o ≠ 35 → o ≠ 36 → o ≠ 67 → o ≠ 71 → ¬ (47 ≤ o ∧ o ≤ 52) → B o = A o) ∧ (∀ q, q ≠ 34 → q ≠ 51 → q ≠ 53 → q ≠ 57 → B 35 q = A 35 q) ∧ B 35 57 ≤ A 35 57 ∧ (A 35 34 ≤ B 35 34 ∧ B 35 34 ≤ A 35 34 + x)
section KQS
variable {A B E : tS} {n m k d r i l v x y s sz a e : Nat} {me : Bool} {nm : Nat → Nat}
theorem KQ_r : KQ 0 A A := ⟨fun _ _ _ _ _ _ => rfl, fun _ _ _ _ _ => rfl, Nat.le_refl _, Nat.le_refl _, Nat.le_refl _⟩
theorem KQ_t (h : KQ x A B) (g : KQ y B E) : KQ (x + y) A E := ⟨fun o a b c d f => by rw [g.1 o a b c d f, h.1 o a b c d f], fun q a b c d => by rw [g.2.1 q a b c d, h.2.1 q a b c d], Nat.le_trans g.2.2.1 h.2.2.1, Nat.le_trans h.2.2.2.1 g.2.2.2.1, by have := h.2.2.2.2; have := g.2.2.2.2; omega⟩
theorem KQ_le (h : KQ x A B) (hx : x ≤ y) : KQ y A B := ⟨h.1, h.2.1, h.2.2.1, h.2.2.2.1, by have := h.2.2.2.2; omega⟩
theorem KQ_kr (h : KR A B) (hx : B 35 34 ≤ A 35 34 + x) : KQ x A B := ⟨fun o a b _ _ f => h.1 o a b f, fun q a _ _ _ => h.2.1 q a, by rw [h.2.1 57 (by decide)]; exact Nat.le_refl _, h.2.2, hx⟩
theorem KQ_35 (h : KR A B) (hx : B 35 = A 35) : KQ 0 A B := KQ_kr h (by rw [hx]; exact Nat.le_refl _)
theorem KQ_wa : KQ 0 B (wa1 B v s) := by
  have f : ∀ q, q ≠ 51 → q ≠ 53 → wa1 B v s 35 q = B 35 q := fun q h1 h2 => by
    unfold wa1
    rw [up2_j h1, cp67_o (by decide), up2_j h2]
  exact ⟨fun o a _ c _ _ => wa1_o B c a, fun q _ b c _ => f q b c, by rw [f 57 (by decide) (by decide)]; exact Nat.le_refl _, by rw [f 34 (by decide) (by decide)]; exact Nat.le_refl _, by rw [f 34 (by decide) (by decide)]; exact Nat.le_refl _⟩
theorem s35_N : setN A n i v 35 = A 35 := by
  funext q
  exact setN_o (by decide) (by decide)
theorem s35_P : setP A r k v 35 = A 35 := by
  unfold setP
  rw [up2_rown (by decide), up2_rown (by decide)]
theorem s35_pE : putE A d k v 35 = A 35 := by
  unfold putE
  rw [up2_rown (by decide), up2_rown (by decide)]
theorem s35_f : freeA A r me 35 = A 35 := by
  unfold freeA
  cases me with
  | true =>
    show up2 (up2 (up2 (up2 (up2 (up2 A 36 _ 0) 51 1 1) 49 r 1) 48 r 0) 51 _ 0) 52 _ 1 35 = A 35
    rw [up2_rown (by decide), up2_rown (by decide), up2_rown (by decide), up2_rown (by decide), up2_rown (by decide), up2_rown (by decide)]
  | false =>
    show up2 (up2 (up2 (up2 A 36 _ 0) 51 1 1) 49 r 1) 48 r 0 35 = A 35
    rw [up2_rown (by decide), up2_rown (by decide), up2_rown (by decide), up2_rown (by decide)]
theorem s35_drop : dropA A n i 35 = A 35 := by
  have u : up2 A 50 n 1 35 = A 35 := up2_rown (by decide)
  unfold dropA
  split
  · rfl
  · split
    · rw [s35_f, s35_N, u]
    · unfold drop1
      split
      · split
        · rw [s35_f, s35_N, s35_f, s35_P, u]
        · unfold drop2
          split
          · rw [s35_f, s35_N, s35_f, s35_P, s35_f, s35_P, u]
          · rw [s35_f, s35_P, s35_f, s35_P, u]
      · rw [s35_f, s35_P, u]
theorem s35_dd : ∀ m (A : tS), dd n sz m A 35 = A 35
  | 0, _ => rfl
  | m + 1, A => by
    show (if 256 * m < sz then A else dd n sz m (dropA A n m)) 35 = A 35
    split
    · rfl
    · rw [s35_dd m, s35_drop]
theorem s35_sz : szA A n sz 35 = A 35 := by
  have u : up2 (setN A n 1 sz) 50 n 1 35 = A 35 := by rw [up2_rown (by decide), s35_N]
  unfold szA
  split
  · exact s35_N
  · split
    · rw [zb_rows 35 (by decide) (by decide), u]
    · rw [s35_dd, zb_rows 35 (by decide) (by decide), u]
theorem s35_rl : ∀ m (A : tS), remL d m A 35 = A 35
  | 0, _ => rfl
  | m + 1, A => by
    show (if bareA A d m = true then remL d m (setN (dropA A d m) d 1 (256 * m)) else A) 35 = A 35
    split
    · rw [s35_rl m, s35_N, s35_drop]
    · rfl
theorem s35_rem : remA A d k 35 = A 35 := by
  unfold remA
  rw [s35_rl, s35_pE]
theorem s35_mf : mfA A n 35 = A 35 := by
  unfold mfA
  split
  · rfl
  · rw [s35_N]
    split
    · exact s35_sz
    · rfl
theorem KR_pE : KR A (putE A d k v) := by
  unfold putE
  exact ⟨fun o a b c => by rw [up2_rown (by omega), up2_rown b], fun q _ => by rw [up2_o (by decide), up2_o (by decide)], by rw [up2_o (by decide), up2_o (by decide)]; exact Nat.le_refl _⟩
theorem KR_x {j : Nat} : KR A (up2 A 36 j v) := ⟨fun o _ b _ => up2_rown b, fun q _ => up2_o (by decide), by rw [up2_o (by decide)]; exact Nat.le_refl _⟩
theorem KR_nm : ∀ m i (A : tS), KR A (nmL d k nm m i A)
  | 0, _, _ => KR_r
  | m + 1, i, A => KR_t KR_x (KR_nm m (i + 1) _)
theorem KR_add (hd : d < 64) (hi : ffA A d / 8 < 1064) : KR A (addA A d nm m v) := by
  have e1 : KR A (add1 A d) := by
    unfold add1
    split
    · exact KR_t (KP_ens hd hi).kr KR_N
    · exact KR_r
  unfold addA add2
  exact KR_t e1 (KR_t (KR_t KR_x (KR_nm _ _ _)) KR_pE)
theorem KR_rl (hd : d < 64) : ∀ m (A : tS), m ≤ 1064 → KR A (remL d m A)
  | 0, _, _ => KR_r
  | m + 1, A, hm => by
    show KR A (if bareA A d m = true then remL d m (setN (dropA A d m) d 1 (256 * m)) else A)
    split
    · exact KR_t (KR_t (KP_drop hd (by omega)).kr KR_N) (KR_rl hd m _ (by omega))
    · exact KR_r
theorem KR_rem (hd : d < 64) (hs : nd A d 1 ≤ 272384) : KR A (remA A d k) := by
  unfold remA
  refine KR_t KR_pE (KR_rl hd _ _ ?_)
  have : nd (putE A d k 64) d 1 = nd A d 1 := by
    unfold putE ex nd
    rw [up2_o (by decide), up2_j (by omega)]
  rw [this]
  omega
theorem KR_mf (hn : n < 64) (hs : nd A n 1 ≤ 272384) : KR A (mfA A n) := by
  unfold mfA
  split
  · exact KR_r
  · split
    · exact KR_t (KP_sz hn hs).kr KR_N
    · exact KR_N
theorem KQ_add (hd : d < 64) (hi : ffA A d / 8 < 1064) : KQ 4 A (addA A d nm m v) := KQ_kr (KR_add hd hi) add_34
theorem KQ_rem (hd : d < 64) (hs : nd A d 1 ≤ 272384) : KQ 0 A (remA A d k) := KQ_35 (KR_rem hd hs) s35_rem
theorem KQ_mf (hn : n < 64) (hs : nd A n 1 ≤ 272384) : KQ 0 A (mfA A n) := KQ_35 (KR_mf hn hs) s35_mf
theorem KQ_N : KQ 0 A (setN A n i v) := KQ_35 KR_N s35_N
theorem enL_34 : ∀ m i (A : tS), enL n i m A 35 34 ≤ A 35 34 + 4 * m
  | 0, _, _ => Nat.le_refl _
  | m + 1, i, A => by
    have := enL_34 m (i + 1) (ensA A n i)
    have e := ens_34 (A := A) (n := n) (i := i)
    show enL n (i + 1) m (ensA A n i) 35 34 ≤ _
    omega
end KQS
