/-! ===== PURE: what is changed is touched ===== -/
def TK (A : tS) : Prop := ∃ b, b < 34 ∧ A 51 b ≠ 0
def KG (A B : tS) : Prop := (TK A → TK B) ∧ ∀ n, n < 64 → B 50 n ≠ 0 → A 50 n ≠ 0 ∨ TK B
/-- a mark of change, and something is touched -/
def CHG (A : tS) : Prop := ∀ n, n < 64 → A 50 n ≠ 0 → TK A
section CHS
variable {A B E Y : tS} {n m k d r i l v x s sz a : Nat} {me : Bool}
theorem KG_r : KG A A := ⟨fun h => h, fun _ _ h => Or.inl h⟩
theorem KG_t (h : KG A B) (g : KG B E) : KG A E := ⟨fun y => g.1 (h.1 y), fun n hn y => by
  rcases g.2 n hn y with z | z
  · rcases h.2 n hn z with u | u
    · exact Or.inl u
    · exact Or.inr (g.1 u)
  · exact Or.inr z⟩
theorem KG_k (h : TK B) : KG A B := ⟨fun _ => h, fun _ _ _ => Or.inr h⟩
theorem KG_e (h50 : B 50 = A 50) (h51 : B 51 = A 51) : KG A B := by
  unfold KG TK
  rw [h50, h51]
  exact ⟨fun h => h, fun _ _ h => Or.inl h⟩
theorem TK_N (hn : n < 64) : TK (setN A n x v) := ⟨2 + n / 2, by omega, by
  unfold setN
  rw [up2_s]
  decide⟩
theorem KG_N (hn : n < 64) : KG A (setN A n x v) := KG_k (TK_N hn)
/-- a mark more -/
theorem TK_51 {j : Nat} (h : TK A) : TK (up2 A 51 j 1) := by
  obtain ⟨b, b1, b2⟩ := h
  refine ⟨b, b1, ?_⟩
  rw [up2_if]
  split
  · decide
  · exact b2
theorem TK_e (h51 : B 51 = A 51) (h : TK A) : TK B := by
  unfold TK at h ⊢
  rw [h51]
  exact h
theorem TK_P (h : TK A) : TK (setP A r k v) := by
  unfold setP
  exact TK_51 (TK_e (up2_rown (by decide)) h)
theorem TK_pE (h : TK A) : TK (putE A d k v) := by
  unfold putE
  exact TK_51 (TK_e (up2_rown (by decide)) h)
theorem KG_pE : KG A (putE A d k v) := ⟨TK_pE, fun n _ h => Or.inl (by
  unfold putE at h
  rwa [up2_o (by decide), up2_o (by decide)] at h)⟩
theorem TK_get : TK (getA A r me) := by
  refine ⟨1, by omega, ?_⟩
  unfold getA
  rw [up2_o (by decide), fl_row (by decide)]
  cases me with
  | true =>
    rw [cond_true, up2_if]
    split
    · decide
    · rw [up2_s]
      decide
  | false =>
    rw [cond_false, up2_s]
    decide
theorem TK_free : TK (freeA A r me) := by
  refine ⟨1, by omega, ?_⟩
  unfold freeA
  cases me with
  | true =>
    show up2 (up2 _ 51 _ 0) 52 _ 1 51 1 ≠ 0
    rw [up2_o (by decide), up2_j (by omega), up2_o (by decide), up2_o (by decide), up2_s]
    decide
  | false =>
    show up2 (up2 (up2 (up2 A 36 _ 0) 51 1 1) 49 r 1) 48 r 0 51 1 ≠ 0
    rw [up2_o (by decide), up2_o (by decide), up2_s]
    decide
theorem KG_ens (hn : n < 64) : KG A (ensA A n i) := by
  unfold ensA
  split
  · exact KG_r
  · refine KG_k ?_
    unfold ens4
    split
    · exact TK_N hn
    · exact TK_P TK_get
theorem KG_drop (hn : n < 64) : KG A (dropA A n i) := by
  unfold dropA
  split
  · exact KG_r
  · split
    · exact KG_k TK_free
    · refine KG_k ?_
      unfold drop1
      split
      · split
        · exact TK_free
        · unfold drop2
          split
          · exact TK_free
          · exact TK_free
      · exact TK_free
theorem KG_dd (hn : n < 64) : ∀ m (A : tS), KG A (dd n sz m A)
  | 0, _ => KG_r
  | m + 1, A => by
    show KG A (if 256 * m < sz then A else dd n sz m (dropA A n m))
    split
    · exact KG_r
    · exact KG_t (KG_drop hn) (KG_dd hn m _)
theorem KG_zb : KG A (zb A n l) := KG_e (zb_rows 50 (by decide) (by decide)) (zb_rows 51 (by decide) (by decide))
theorem KG_s1 (hn : n < 64) : KG A (up2 (setN A n 1 sz) 50 n 1) := KG_k (TK_e (up2_rown (by decide)) (TK_N (A := A) (x := 1) (v := sz) hn))
theorem KG_sz (hn : n < 64) : KG A (szA A n sz) := by
  unfold szA
  split
  · exact KG_N hn
  · split
    · exact KG_t (KG_s1 hn) KG_zb
    · exact KG_t (KG_t (KG_s1 hn) KG_zb) (KG_dd hn _ _)
theorem KG_rl (hd : d < 64) : ∀ m (A : tS), KG A (remL d m A)
  | 0, _ => KG_r
  | m + 1, A => by
    show KG A (if bareA A d m = true then remL d m (setN (dropA A d m) d 1 (256 * m)) else A)
    split
    · exact KG_t (KG_t (KG_drop hd) (KG_N hd)) (KG_rl hd m _)
    · exact KG_r
theorem KG_rem (hd : d < 64) : KG A (remA A d k) := by
  unfold remA
  exact KG_t KG_pE (KG_rl hd _ _)
theorem KG_add {nm : Nat → Nat} (hd : d < 64) : KG A (addA A d nm m v) := by
  have e1 : KG A (add1 A d) := by
    unfold add1
    split
    · exact KG_t (KG_ens hd) (KG_N hd)
    · exact KG_r
  unfold addA add2
  exact KG_t e1 (KG_t (KG_e (by rw [nmL_o (by decide), up2_rown (by decide)]) (by rw [nmL_o (by decide), up2_rown (by decide)])) KG_pE)
theorem KG_sl {tx : Nat → Nat} (hn : n < 64) : ∀ m k (A : tS), KG A (slF n tx k m A)
  | 0, _, _ => KG_r
  | m + 1, k, A => KG_t (KG_N hn) (KG_sl hn m (k + 1) _)
theorem KG_mk4 (hn : n < 64) : KG A (mk4 A n d v) := by
  unfold mk4
  exact KG_k (TK_e (up2_rown (by decide)) (TK_N hn))
theorem KG_mkS (hn : n < 64) : KG A (mkS A n d v) := by
  unfold mkS
  split
  · exact KG_t (KG_t (KG_mk4 hn) (KG_N hn)) (KG_sl hn _ _ _)
  · exact KG_mk4 hn
theorem KG_mf (hn : n < 64) : KG A (mfA A n) := by
  unfold mfA
  split
  · exact KG_r
  · split
    · exact KG_t (KG_sz hn) (KG_N hn)
    · exact KG_N hn
theorem KG_enL (hn : n < 64) : ∀ m i (A : tS), KG A (enL n i m A)
  | 0, _, _ => KG_r
  | m + 1, i, A => KG_t (KG_ens hn) (KG_enL hn m (i + 1) _)
theorem KG_wa : KG B (wa1 B v s) := KG_e (wa1_o B (by decide) (by decide)) (wa1_o B (by decide) (by decide))
theorem KG_51 : KG B (up2 B 35 s v) := KG_e (up2_rown (by decide)) (up2_rown (by decide))
theorem CHG_k (h : KG A B) (c : CHG A) : CHG B := fun n hn y => by
  rcases h.2 n hn y with z | z
  · exact h.1 (c n hn z)
  · exact z
theorem TK_tc (h : TK A) : tcA A ≠ 0 := by
  obtain ⟨b, b1, b2⟩ := h
  unfold tcA
  intro e
  have := cn_0 6200 0 e b (Nat.zero_le _) (by omega)
  have q : A 51 b = 0 := by simpa using this
  exact b2 q
theorem CHG_gs (c : CHG A) (hn : n < 64) (h : A 50 n ≠ 0) : gsA A ≠ 0 := fun e => by
  have := TK_tc (c n hn h)
  unfold gsA at e
  exact this (Nat.eq_zero_of_add_eq_zero_right e)
theorem KG_mk (hN : mkN B ≤ 64) (hp : 0 ≤ pnA B → (pnA B).toNat < 64) : KG B (mkR B v s).2 := by
  unfold mkR
  split
  · exact KG_wa
  · split
    · exact KG_wa
    · split
      · exact KG_wa
      · exact KG_t (KG_t KG_wa (KG_mkS (by omega))) (KG_add (hp (by omega)))
theorem KG_by {p3 : Int32} (hn : n < 64) : KG B (byZ n a l p3 B).2 := by
  rw [byZ_mr]
  split
  · have e1 : KG B (by1 n a l B) := by
      unfold by1
      split
      · exact KG_r
      · exact KG_sz hn
    refine KG_t (KG_t e1 (KG_enL hn _ _ _)) (KG_e (wbA_o (by decide) (by decide) _ _ _) (wbA_o (by decide) (by decide) _ _ _))
  · exact KG_r
end CHS
