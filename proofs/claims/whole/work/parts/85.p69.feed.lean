/-! ===== PURE: the reference's feed, path ===== -/
def fdV (v : Nat → Int32) (k : Nat) : Nat := (v (k / 4)).toBitVec.toNat / 2 ^ (24 - 8 * (k % 4)) % 256
def v5 (a b c d e : Int32) (i : Nat) : Int32 := if i = 0 then a else if i = 1 then b else if i = 2 then c else if i = 3 then d else e
def fdN (v : Nat → Int32) (t : Nat) : Nat → Nat → tS → tS
  | 0, _, A => A
  | m + 1, k, A => fdN v t m (k + 1) (up2 A 70 (t + k) (fdV v k))
def feA (v : Nat → Int32) (A : tS) : Int × tS := if 4000 < A 35 57 + 20 then (-9, up2 A 35 0 0) else (((A 35 57 + 20 : Nat) : Int), up2 (fdN v (A 35 57) 20 0 (up2 A 35 0 0)) 35 57 (A 35 57 + 20))
def prN (A : tS) (k : Nat) : Bool := decide (33 ≤ A 70 k) && decide (A 70 k ≤ 126)
def paB (A : tS) : tS := up2 (up2 A 35 0 0) 35 57 0
def ptA (x y : Int32) (A : tS) : Int × tS :=
  if x < 0 ∨ (1 : Int32) < x ∨ y < 0 ∨ (120 : Int32) < y ∨ A 35 57 < y.toNatClampNeg ∨ sr (fun k => !prN A k) 0 y.toNatClampNeg < y.toNatClampNeg then (-9, paB A)
  else (((y.toNatClampNeg : Nat) : Int), up2 (upR (paB A) (62 + x.toNatClampNeg) (fun j => if j < y.toNatClampNeg then A 70 j else A (62 + x.toNatClampNeg) j)) 64 x.toNatClampNeg y.toNatClampNeg)
section FD
variable {b0 fu : Nat} {σ τ : tM} {A B U : tS} {N N' K K' : Nat} {J : tJ}
theorem i32_int (v : Int32) : v.toInt = if v.toBitVec.toNat < 2147483648 then (v.toBitVec.toNat : Int) else (v.toBitVec.toNat : Int) - 4294967296 := by
  have : v.toInt = v.toBitVec.toInt := rfl
  rw [this, BitVec.toInt_eq_toNat_cond]
  have := v.toBitVec.isLt
  split <;> split <;> omega
theorem i8_of {x y : Int32} (h : x.toInt % 256 = y.toInt % 256) : x.toInt8 = y.toInt8 := by
  apply Int8.toInt_inj.mp
  rw [Int32.toInt_toInt8, Int32.toInt_toInt8]
  show Int.bmod x.toInt 256 = Int.bmod y.toInt 256
  unfold Int.bmod
  have h : x.toInt % ((256 : Nat) : Int) = y.toInt % ((256 : Nat) : Int) := h
  rw [h]
theorem by_s (v : Int32) {s : Nat} (hs : s = 0 ∨ s = 8 ∨ s = 16 ∨ s = 24) : (v >>> nI s).toInt8.toInt32 = sb (v.toBitVec.toNat / 2 ^ s % 256) := by
  have hb := v.toBitVec.isLt
  have h2 := i32_int v
  have h3 : (nI (v.toBitVec.toNat / 2 ^ s % 256)).toInt = ((v.toBitVec.toNat / 2 ^ s % 256 : Nat) : Int) := nI_toInt (by have := Nat.mod_lt (v.toBitVec.toNat / 2 ^ s) (show 0 < 256 by decide); omega)
  have h1 : (v >>> nI s).toInt = v.toInt / ((2 ^ s : Nat) : Int) := by
    rw [pk_shr v (nI s) s (by rcases hs with rfl | rfl | rfl | rfl <;> decide), Int.shiftRight_eq_div_pow]
  unfold sb
  rw [i8_of (x := v >>> nI s) (y := nI (v.toBitVec.toNat / 2 ^ s % 256))]
  rw [h1, h3, h2]
  rcases hs with rfl | rfl | rfl | rfl
  · simp only [Nat.pow_zero]
    split <;> omega
  · simp only [show (2 : Nat) ^ 8 = 256 from rfl]
    split <;> omega
  · simp only [show (2 : Nat) ^ 16 = 65536 from rfl]
    split <;> omega
  · simp only [show (2 : Nat) ^ 24 = 16777216 from rfl]
    split <;> omega
theorem fd_b (v : Nat → Int32) {k : Nat} (hk : k < 20) : vp_nar .byte (((v (k / 4)) >>> (((24 : Int32) - ((8 : Int32) * (nI k - nI k / (4 : Int32) * (4 : Int32)))) &&& 31)).toInt8.toInt32) = sb (fdV v k) := by
  have e1 : nI k - nI k / (4 : Int32) * (4 : Int32) = nI (k % 4) := pk_rem (d := 4) (by omega) (by omega) (by omega)
  have e2 : (8 : Int32) * nI (k % 4) = nI (8 * (k % 4)) := pk_mul 8 _
  have e3 : (24 : Int32) - nI (8 * (k % 4)) = nI (24 - 8 * (k % 4)) := nI_sb (a := 24) (by omega)
  have e4 : nI (24 - 8 * (k % 4)) &&& (31 : Int32) = nI (24 - 8 * (k % 4)) := by
    have : ∀ j : Fin 4, nI (24 - 8 * j.val) &&& (31 : Int32) = nI (24 - 8 * j.val) := by decide
    exact this ⟨k % 4, by omega⟩
  rw [e1, e2, e3, e4, pk_vb]
  exact by_s (v (k / 4)) (by omega)
theorem fd77 {a b c d e : Int32} {t : Nat} (ht : t + 20 ≤ 4000) : ∀ m k f σ A, RM b0 J σ A N → A 35 57 = t → k + m = 20 → m < f → wp (FR b0) σ (L_X12_feed_24 b0 fu f (b0 + 35) a b c d e (nI k) σ) (fun v τ => v = nI (t + 20) ∧ RM b0 J τ (up2 (fdN (v5 a b c d e) t m k A) 35 57 (t + 20)) N) := by
  intro m
  induction m with
  | zero =>
    intro k f σ A h hA hk hf
    obtain ⟨f, rfl⟩ : ∃ q, f = q + 1 := ⟨f - 1, by omega⟩
    have : k = 20 := by omega
    subst this
    unfold L_X12_feed_24
    rw [ltb_def, if_pos (show (20 : Int32) ≤ nI 20 by decide), ckR_35 h.ra.lay, rd_IIs, rf_57 h.ra, hA, show nI t + (20 : Int32) = nI (t + 20) from nI_add t 20]
    exact wp_ret (FR_sI (refO_f 35 (by omega) (by omega))) ⟨rfl, RM_fix (o := 35) (j := 57) (x := t + 20) h rfl (by decide) rfl (by show _ < 2147483648; omega)⟩
  | succ m ih =>
    intro k f σ A h hA hk hf
    obtain ⟨f, rfl⟩ : ∃ q, f = q + 1 := ⟨f - 1, by omega⟩
    have L := h.ra.lay
    have step : ∀ (x : Int32), x = v5 a b c d e (k / 4) → wp (FR b0) σ (J_X12_feed_77 b0 fu (L_X12_feed_24 b0 fu f) (b0 + 35) a b c d e (nI k) x σ) (fun v τ => v = nI (t + 20) ∧ RM b0 J τ (up2 (fdN (v5 a b c d e) t (m + 1) k A) 35 57 (t + 20)) N) := by
      intro x hx
      subst hx
      unfold J_X12_feed_77
      rw [ckR_35 L, osm_p (rfR_35_56 L), ckR_70 L, rf_57 h.ra, hA, nI_add, ckI_n (by omega) (by omega), ltb_def, ofi, nI_cl (by omega), fd_b _ (by omega)]
      refine wp_from (FR_good b0) (FR_sI (v := sb (fdV (v5 a b c d e) k)) (j := t + k) (refO_f 70 (by omega) (by omega))) ?_
      exact ih (k + 1) f _ (up2 A 70 (t + k) (fdV (v5 a b c d e) k)) (RM_fix (o := 70) h rfl (by decide) rfl (Nat.mod_lt _ (by decide))) (by rw [up2_o (by decide)]; exact hA) (by omega) (by omega)
    have l : ∀ q, q < 2147483648 → ((nI q ≤ nI k) = (q ≤ k)) := fun q hq => nI_leP hq (by omega)
    unfold L_X12_feed_24
    rw [ltb_def]
    show wp (FR b0) σ (if nI 20 ≤ nI k then _ else if nI 4 ≤ nI k then (if nI 8 ≤ nI k then (if nI 12 ≤ nI k then (if nI 16 ≤ nI k then _ else _) else _) else _) else _) _
    rw [if_l (by omega) (by omega), if_neg (by omega), if_l (by omega) (by omega), if_l (by omega) (by omega), if_l (by omega) (by omega), if_l (by omega) (by omega)]
    by_cases c4 : 4 ≤ k
    · rw [if_pos c4]
      by_cases c8 : 8 ≤ k
      · rw [if_pos c8]
        by_cases c12 : 12 ≤ k
        · rw [if_pos c12]
          by_cases c16 : 16 ≤ k
          · rw [if_pos c16]
            exact step e (by have : k / 4 = 4 := by omega
                             rw [this]; rfl)
          · rw [if_neg c16]
            exact step d (by have : k / 4 = 3 := by omega
                             rw [this]; rfl)
        · rw [if_neg c12]
          exact step c (by have : k / 4 = 2 := by omega
                           rw [this]; rfl)
      · rw [if_neg c8]
        exact step b (by have : k / 4 = 1 := by omega
                         rw [this]; rfl)
    · rw [if_neg c4]
      exact step a (by have : k / 4 = 0 := by omega
                       rw [this]; rfl)
theorem feed_wp {a b c d e : Int32} (h : RM b0 J σ A N) (ht : A 35 57 ≤ 4000) (hu : 3000 ≤ fu) : wp (FR b0) σ (m_X12_feed b0 fu (b0 + 35) a b c d e σ) (fun v τ => v = iz (feA (v5 a b c d e) A).1 ∧ RM b0 J τ (feA (v5 a b c d e) A).2 N) := by
  have L := h.ra.lay
  have h1 : RM b0 J (sI σ (b0 + 35) 0 0) (up2 A 35 0 0) N := RM_fix (x := 0) h rfl (by decide) rfl (by decide)
  have fr : FR b0 σ (sI σ (b0 + 35) 0 0) := FR_sI (refO_f 35 (by omega) (by omega))
  have e57 : up2 A 35 0 0 35 57 = A 35 57 := up2_j (by decide)
  refine wp_grw (FR_good b0) ?_
  rw [ckR_35 L, rf_57 h1.ra, e57, show nI (A 35 57) + (20 : Int32) = nI (A 35 57 + 20) from nI_add _ 20]
  show wp (FR b0) σ (if nI (A 35 57 + 20) ≤ nI 4000 then _ else _) _
  rw [if_l (by omega) (by omega)]
  unfold feA
  by_cases c0 : A 35 57 + 20 ≤ 4000
  · rw [if_pos c0, if_neg (by omega)]
    refine wp_from (FR_good b0) fr (wp_mono (fd77 c0 20 0 fu _ _ h1 e57 (by omega) (by omega)) ?_)
    intro v ρ _ ⟨x1, x2⟩
    exact ⟨by rw [x1, iz_n], x2⟩
  · rw [if_neg c0, if_pos (by omega)]
    exact wp_ret fr ⟨rfl, h1⟩
set_option maxRecDepth 10000 in
theorem sb_pr {x : Nat} (h : x < 256) : (sb x < 33 ↔ ¬ (33 ≤ x ∧ x < 128)) ∧ (33 ≤ x → x < 128 → (sb x ≤ 126 ↔ x ≤ 126)) := by
  have : ∀ y : Fin 256, (sb y.val < 33 ↔ ¬ (33 ≤ y.val ∧ y.val < 128)) ∧ (33 ≤ y.val → y.val < 128 → (sb y.val ≤ 126 ↔ y.val ≤ 126)) := by decide
  exact this ⟨x, h⟩
theorem pt45 {w n : Nat} (hw : w < 2) (hn : n ≤ 120) (h : RM b0 J σ A N) : ∀ m k f, k + m = n → m < f → wp (FR b0) σ (L_X12_path_45 b0 fu f (b0 + 35) (nI w) (nI n) (nI k) σ) (fun v τ => v = iz (if sr (fun k => !prN A k) k m < n then -9 else ((n : Nat) : Int)) ∧ RM b0 J τ (if sr (fun k => !prN A k) k m < n then A else up2 (upR A (62 + w) (fun j => if j < n then A 70 j else A (62 + w) j)) 64 w n) N) := by
  have L := h.ra.lay
  intro m
  induction m with
  | zero =>
    intro k f hk hf
    obtain ⟨f, rfl⟩ : ∃ q, f = q + 1 := ⟨f - 1, by omega⟩
    have hp : tA σ (b0 + 61) w = some (b0 + (62 + w)) ∧ tk σ (b0 + (62 + w)) = .inr (1, 120) ∧ ∀ j, tI σ (b0 + (62 + w)) j = sb (A (62 + w) j) ∧ A (62 + w) j < 256 := by
      have : w = 0 ∨ w = 1 := by omega
      rcases this with rfl | rfl
      · exact ⟨rfR_61_0 L, rkR62 L, fun j => ⟨rd_62 h.ra j, h.ra.2.2 62 j⟩⟩
      · exact ⟨rfR_61_1 L, rkR63 L, fun j => ⟨rd_63 h.ra j, h.ra.2.2 63 j⟩⟩
    have h74 := L.1
    have e0 : ¬ sr (fun k => !prN A k) k 0 < n := by show ¬ k < n; omega
    unfold L_X12_path_45
    rw [ltb_def, if_l (by omega) (by omega), if_pos (by omega), ckR_35 L, osm_p (rfR_35_56 L), osm_p (rfR_35_47 L), ckR_61 L, ckI_n hw (by omega), nI_cl (by omega), osm_p hp.1, ckR_70 L, ckR_p hp.2.1 ⟨by omega, by omega⟩]
    have r70 : tI σ (b0 + 70) = fun j => sb (A 70 j) := by funext j; rw [rd_70 h.ra]
    have ckc : ∀ (k : Option (Int32 × tM)), ckC 0 0 (nI n) 4000 120 k = k := fun k => by
      unfold ckC
      rw [nI_cl (by omega), show (0 : Int32).toNatClampNeg = 0 from rfl, if_pos ⟨⟨by decide, by decide, nI_pos (by omega)⟩, by omega, by omega⟩]
    have ckf : ∀ (k : Option (Int32 × tM)), ckF (tI σ (b0 + 70)) 0 (nI n) k = k := fun k => by
      unfold ckF
      rw [r70, if_pos]
      intro j hj
      exact sb_sb _
    rw [ckc, ckf, ltb_def, nI_cl (by omega), show (0 : Int32).toNatClampNeg = 0 from rfl, if_neg e0, if_neg e0]
    have wA : isA (62 + w) 0 = true ∧ (∀ j x, decA (62 + w) j x = sb x) ∧ bndA (62 + w) = 256 := by
      have : w = 0 ∨ w = 1 := by omega
      rcases this with rfl | rfl
      · exact ⟨rfl, fun _ _ => rfl, rfl⟩
      · exact ⟨rfl, fun _ _ => rfl, rfl⟩
    have h2 : RM b0 J (sIr σ (b0 + (62 + w)) (va_cpy (tI σ (b0 + 70)) (tI σ (b0 + (62 + w))) 0 0 n)) (upR A (62 + w) (fun j => if j < n then A 70 j else A (62 + w) j)) N := by
      refine RM_row h wA.1 (by omega) (fun j => ?_) (fun j => ?_)
      · rw [wA.2.1]
        show va_cpy _ _ _ _ _ _ = sb (if j < n then _ else _)
        by_cases q : j < n
        · rw [pk_cpy_in (Nat.zero_le _) (by omega), if_pos q, rd_70 h.ra]
          congr 2
          omega
        · rw [pk_cpy_out (by omega), if_neg q, (hp.2.2 j).1]
      · rw [wA.2.2]
        show (if j < n then _ else _) < 256
        split
        · exact h.ra.2.2 70 j
        · exact (hp.2.2 j).2
    have L2 := h2.ra.lay
    rw [osm_p (rfR_35_48 L2), ckR_64 L2, ckI_n hw (by omega)]
    refine wp_from (FR_good b0) (FR_sIr (f := va_cpy (tI σ (b0 + 70)) (tI σ (b0 + (62 + w))) 0 0 n) (refO_f (62 + w) (by omega) (by omega))) (wp_ret (FR_sI (refO_f 64 (by omega) (by omega))) ⟨(iz_n _).symm, ?_⟩)
    exact RM_fix (o := 64) (j := w) (x := n) h2 rfl (by decide) rfl (by show _ < 2147483648; omega)
  | succ m ih =>
    intro k f hk hf
    obtain ⟨f, rfl⟩ : ∃ q, f = q + 1 := ⟨f - 1, by omega⟩
    have b70 : A 70 k < 256 := h.ra.2.2 70 k
    obtain ⟨s1, s2⟩ := sb_pr b70
    unfold L_X12_path_45 J_X12_path_75
    rw [ltb_def, if_l (by omega) (by omega), if_neg (by omega), ckR_35 L, osm_p (rfR_35_56 L), ckR_70 L, ckI_n (by omega) (by omega), nI_cl (by omega), rd_70 h.ra, osm_p (rfR_35_56 L), ckR_70 L, ckI_n (by omega) (by omega), rd_70 h.ra, ltb_def, ofi]
    have es : sr (fun k => !prN A k) k (m + 1) = if (!prN A k) = true then k else sr (fun k => !prN A k) (k + 1) m := rfl
    by_cases c : 33 ≤ A 70 k ∧ A 70 k ≤ 126
    · have ep : (!prN A k) = false := by unfold prN; simp [c.1, c.2]
      rw [es, ep, if_neg (fun r => s1.mp r ⟨c.1, by omega⟩), if_pos ((s2 c.1 (by omega)).mpr c.2), if_neg (show ¬ false = true by decide)]
      exact ih (k + 1) f (by omega) (by omega)
    · have ep : (!prN A k) = true := by
        unfold prN
        by_cases q : 33 ≤ A 70 k
        · have : ¬ A 70 k ≤ 126 := fun r => c ⟨q, r⟩
          simp [this]
        · simp [q]
      rw [es, ep, if_pos rfl, if_pos (show k < n by omega), if_pos (show k < n by omega)]
      by_cases q : sb (A 70 k) < 33
      · rw [if_pos q]
        exact wp_ret ((FR_good b0).1 _) ⟨rfl, h⟩
      · rw [if_neg q]
        have q2 : 33 ≤ A 70 k ∧ A 70 k < 128 := Classical.byContradiction (fun r => q (s1.mpr r))
        rw [if_neg (fun r => c ⟨q2.1, (s2 q2.1 q2.2).mp r⟩)]
        exact wp_ret ((FR_good b0).1 _) ⟨rfl, h⟩
theorem path_wp {x y : Int32} (h : RM b0 J σ A N) (ht : A 35 57 ≤ 4000) (hu : 3000 ≤ fu) : wp (FR b0) σ (m_X12_path b0 fu (b0 + 35) x y σ) (fun v τ => v = iz (ptA x y A).1 ∧ RM b0 J τ (ptA x y A).2 N) := by
  have L := h.ra.lay
  have h1 : RM b0 J (sI σ (b0 + 35) 0 0) (up2 A 35 0 0) N := RM_fix (x := 0) h rfl (by decide) rfl (by decide)
  have h2 : RM b0 J (sI (sI σ (b0 + 35) 0 0) (b0 + 35) 57 0) (paB A) N := RM_fix (o := 35) (j := 57) (x := 0) h1 rfl (by decide) rfl (by decide)
  have fr : FR b0 σ (sI (sI σ (b0 + 35) 0 0) (b0 + 35) 57 0) := (FR_good b0).2.1 _ _ _ (FR_sI (refO_f 35 (by omega) (by omega))) (FR_sI (refO_f 35 (by omega) (by omega)))
  have e57 : up2 A 35 0 0 35 57 = A 35 57 := up2_j (by decide)
  refine wp_grw (FR_good b0) ?_
  unfold J_X12_path_39 ptA
  rw [ckR_35 L, ltb_def, rf_57 h1.ra, e57]
  by_cases c0 : x < 0
  · rw [if_pos c0, if_pos (Or.inl c0)]
    exact wp_ret fr ⟨rfl, h2⟩
  rw [if_neg c0]
  by_cases c1 : (1 : Int32) < x
  · rw [if_pos c1, if_pos (Or.inr (Or.inl c1))]
    exact wp_ret fr ⟨rfl, h2⟩
  rw [if_neg c1]
  by_cases c2 : y < 0
  · rw [if_pos c2, if_pos (Or.inr (Or.inr (Or.inl c2)))]
    exact wp_ret fr ⟨rfl, h2⟩
  rw [if_neg c2]
  by_cases c3 : (120 : Int32) < y
  · rw [if_pos c3, if_pos (Or.inr (Or.inr (Or.inr (Or.inl c3))))]
    exact wp_ret fr ⟨rfl, h2⟩
  rw [if_neg c3]
  obtain ⟨w, hw, rfl⟩ := nI_of c0
  obtain ⟨n, hn, rfl⟩ := nI_of c2
  have w1 : w < 2 := by
    have : ¬ 1 < w := fun r => c1 ((nI_ltP (a := 1) (b := w) (by omega) hw).mpr r)
    omega
  have n1 : n ≤ 120 := by
    have : ¬ 120 < n := fun r => c3 ((nI_ltP (a := 120) (b := n) (by omega) hn).mpr r)
    omega
  rw [nI_cl hn, nI_cl hw, if_l hn (by omega)]
  by_cases c4 : n ≤ A 35 57
  · rw [if_pos c4]
    have e70 : paB A 70 = A 70 := by unfold paB; rw [up2_rown (by decide), up2_rown (by decide)]
    have e6 : paB A (62 + w) = A (62 + w) := by unfold paB; rw [up2_rown (by omega), up2_rown (by omega)]
    have ep : prN (paB A) = prN A := by funext k; unfold prN; rw [e70]
    have := pt45 (fu := fu) w1 n1 h2 n 0 fu (by omega) (by omega)
    rw [ep, e70, e6] at this
    refine wp_from (FR_good b0) fr (wp_mono this ?_)
    intro v ρ _ ⟨x1, x2⟩
    by_cases c5 : sr (fun k => !prN A k) 0 n < n
    · rw [if_pos (Or.inr (Or.inr (Or.inr (Or.inr (Or.inr c5)))))]
      rw [if_pos c5] at x1 x2
      exact ⟨x1, x2⟩
    · rw [if_neg (fun r => by
        rcases r with r | r | r | r | r | r
        · exact c0 r
        · exact c1 r
        · exact c2 r
        · exact c3 r
        · omega
        · exact c5 r)]
      rw [if_neg c5] at x1 x2
      exact ⟨x1, x2⟩
  · rw [if_neg c4, if_pos (Or.inr (Or.inr (Or.inr (Or.inr (Or.inl (by omega))))))]
    exact wp_ret fr ⟨rfl, h2⟩
end FD
