/-! ===== PURE: fields of words ===== -/
/-- d bits of a word from bit s on, set to v -/
def setF (w s d v : Nat) : Nat := 2 ^ (s + d) * (w / 2 ^ (s + d)) + (2 ^ s * v + w % 2 ^ s)
section FL
theorem setF_in {s d v w : Nat} (hv : v < 2 ^ d) : 2 ^ s * v + w % 2 ^ s < 2 ^ (s + d) := by
  have h1 : w % 2 ^ s < 2 ^ s := Nat.mod_lt _ (Nat.two_pow_pos s)
  have h2 : 2 ^ s * (v + 1) ≤ 2 ^ s * 2 ^ d := Nat.mul_le_mul_left _ hv
  rw [Nat.pow_add]
  rw [Nat.mul_add, Nat.mul_one] at h2
  omega
theorem setF_bit {w s d v : Nat} (hv : v < 2 ^ d) (j : Nat) : (setF w s d v).testBit j = if j < s then w.testBit j else if j < s + d then v.testBit (j - s) else w.testBit j := by
  unfold setF
  rw [Nat.testBit_two_pow_mul_add _ (setF_in hv)]
  have h1 : w % 2 ^ s < 2 ^ s := Nat.mod_lt _ (Nat.two_pow_pos s)
  by_cases c1 : j < s + d
  · rw [if_pos c1, Nat.testBit_two_pow_mul_add _ h1, if_pos c1]
    by_cases c2 : j < s
    · rw [if_pos c2, if_pos c2, Nat.testBit_mod_two_pow]
      simp [c2]
    · rw [if_neg c2, if_neg c2]
  · rw [if_neg c1, if_neg (show ¬ j < s by omega), if_neg c1, Nat.testBit_div_two_pow]
    congr 1
    omega
theorem setF_lt {w s d v : Nat} (hv : v < 2 ^ d) (hs : s + d ≤ 64) (hw : w < 2 ^ 64) : setF w s d v < 2 ^ 64 := by
  apply Nat.lt_pow_two_of_testBit
  intro i hi
  rw [setF_bit hv, if_neg (by omega), if_neg (by omega)]
  exact Nat.testBit_lt_two_pow (Nat.lt_of_lt_of_le hw (Nat.pow_le_pow_right (by decide) hi))
theorem fld_bit (w t e j : Nat) : (w / 2 ^ t % 2 ^ e).testBit j = (decide (j < e) && w.testBit (j + t)) := by
  rw [Nat.testBit_mod_two_pow, Nat.testBit_div_two_pow]
theorem setF_same {w s d v : Nat} (hv : v < 2 ^ d) : setF w s d v / 2 ^ s % 2 ^ d = v := by
  apply Nat.eq_of_testBit_eq
  intro j
  rw [fld_bit, setF_bit hv, if_neg (by omega)]
  by_cases c : j < d
  · rw [if_pos (by omega)]
    simp [c]
  · have : v.testBit j = false := Nat.testBit_lt_two_pow (Nat.lt_of_lt_of_le hv (Nat.pow_le_pow_right (by decide) (by omega)))
    simp [c, this]
theorem setF_other {w s d v t e : Nat} (hv : v < 2 ^ d) (h : t + e ≤ s ∨ s + d ≤ t) : setF w s d v / 2 ^ t % 2 ^ e = w / 2 ^ t % 2 ^ e := by
  apply Nat.eq_of_testBit_eq
  intro j
  rw [fld_bit, fld_bit, setF_bit hv]
  by_cases c : j < e
  · rcases h with h | h
    · rw [if_pos (by omega)]
    · rw [if_neg (by omega), if_neg (by omega)]
  · simp [c]
theorem nat_fld {w s d v : Nat} (hv : v < 2 ^ d) (hs : s + d ≤ 64) (hw : w < 2 ^ 64) : (w &&& (2 ^ 64 - ((2 ^ d - 1) * 2 ^ s + 1))) ||| (v * 2 ^ s) = setF w s d v := by
  apply Nat.eq_of_testBit_eq
  intro j
  have hm : (2 ^ d - 1) * 2 ^ s < 2 ^ 64 := by
    have h1 : (2 ^ d - 1) * 2 ^ s < 2 ^ d * 2 ^ s := Nat.mul_lt_mul_of_pos_right (by have := Nat.two_pow_pos d; omega) (Nat.two_pow_pos s)
    rw [← Nat.pow_add] at h1
    exact Nat.lt_of_lt_of_le h1 (Nat.pow_le_pow_right (by decide) (by omega))
  rw [Nat.testBit_or, Nat.testBit_and, Nat.testBit_two_pow_sub_succ hm, setF_bit hv, Nat.testBit_mul_two_pow, Nat.testBit_mul_two_pow, Nat.testBit_two_pow_sub_one]
  by_cases c0 : j < 64
  · by_cases c1 : j < s
    · rw [if_pos c1]
      simp [c0, show ¬ s ≤ j by omega]
    · rw [if_neg c1]
      by_cases c2 : j < s + d
      · rw [if_pos c2]
        simp [c0, show s ≤ j by omega, show j - s < d by omega]
      · rw [if_neg c2]
        have : v.testBit (j - s) = false := Nat.testBit_lt_two_pow (Nat.lt_of_lt_of_le hv (Nat.pow_le_pow_right (by decide) (by omega)))
        simp [c0, show s ≤ j by omega, show ¬ j - s < d by omega, this]
  · have hw2 : w.testBit j = false := Nat.testBit_lt_two_pow (Nat.lt_of_lt_of_le hw (Nat.pow_le_pow_right (by decide) (by omega)))
    rw [if_neg (by omega), if_neg (by omega)]
    have : v.testBit (j - s) = false := Nat.testBit_lt_two_pow (Nat.lt_of_lt_of_le hv (Nat.pow_le_pow_right (by decide) (by omega)))
    simp [hw2, this]
theorem wb_not {x : Nat} (hx : x < 2 ^ 64) : lN x ^^^ (-1) = lN (2 ^ 64 - (x + 1)) := by
  apply wb_inj
  rw [Int64.toBitVec_xor, wb_tb, wb_tb, show ((-1 : Int64)).toBitVec = BitVec.allOnes 64 from rfl]
  apply BitVec.eq_of_toNat_eq
  rw [BitVec.xor_allOnes, BitVec.toNat_not, BitVec.toNat_ofNat, BitVec.toNat_ofNat, Nat.mod_eq_of_lt hx, Nat.mod_eq_of_lt (by omega)]
  omega
/-- a field of a word set: as the class does it -/
theorem wb_fld {w s d v : Nat} (hw : w < 2 ^ 64) (hs : s + d ≤ 64) (hd : 0 < d) (hv : v < 2 ^ d) : (lN w &&& ((lN (2 ^ d - 1) <<< ((nI s).toInt64 &&& 63)) ^^^ (-1))) ||| (lN v <<< ((nI s).toInt64 &&& 63)) = lN (setF w s d v) := by
  have hm : (2 ^ d - 1) * 2 ^ s < 2 ^ 64 := by
    have h1 : (2 ^ d - 1) * 2 ^ s < 2 ^ d * 2 ^ s := Nat.mul_lt_mul_of_pos_right (by have := Nat.two_pow_pos d; omega) (Nat.two_pow_pos s)
    rw [← Nat.pow_add] at h1
    exact Nat.lt_of_lt_of_le h1 (Nat.pow_le_pow_right (by decide) (by omega))
  have hv2 : v * 2 ^ s < 2 ^ 64 := by
    have h1 : v * 2 ^ s < 2 ^ d * 2 ^ s := Nat.mul_lt_mul_of_pos_right hv (Nat.two_pow_pos s)
    rw [← Nat.pow_add] at h1
    exact Nat.lt_of_lt_of_le h1 (Nat.pow_le_pow_right (by decide) (by omega))
  rw [wb_shl _ (by omega), wb_shl _ (by omega), wb_not hm, wb_and hw (by omega), wb_or (Nat.lt_of_le_of_lt Nat.and_le_left hw) hv2, nat_fld hv hs hw]
theorem i_shr3 {i : Nat} (h : i < 2147483648) : nI i >>> ((3 : Int32) &&& 31) = nI (i / 8) := pk_shrN h _ 3 (by decide)
theorem i_and7 {i : Nat} (h : i < 2147483648) : nI i &&& (7 : Int32) = nI (i % 8) := pk_andN (by omega) 3 (by decide)
theorem i_shl3 {i : Nat} (h : i < 8) : nI i <<< ((3 : Int32) &&& 31) = nI (8 * i) := by
  rw [pk_shlN _ 3 (by decide) (by omega)]
  congr 1
  omega
theorem i_255 {n : Nat} (h : n < 4294967296) : nI n &&& (255 : Int32) = nI (n % 256) := pk_andN h 8 (by decide)
/-- a byte of a word -/
def by8 (w k : Nat) : Nat := w / 2 ^ (8 * k) % 256
theorem by8_lt (w k : Nat) : by8 w k < 256 := Nat.mod_lt _ (by decide)
theorem by8_set {w k v : Nat} (hv : v < 256) : by8 (setF w (8 * k) 8 v) k = v := setF_same (d := 8) hv
theorem by8_oth {w k v j : Nat} (hv : v < 256) (h : j ≠ k) : by8 (setF w (8 * k) 8 v) j = by8 w j := setF_other (d := 8) (e := 8) hv (by omega)
/-- a word is its bytes -/
theorem by8_ext {a b : Nat} (ha : a < 18446744073709551616) (hb : b < 18446744073709551616) (h : ∀ k, k < 8 → by8 a k = by8 b k) : a = b := by
  have h0 := h 0 (by omega)
  have h1 := h 1 (by omega)
  have h2 := h 2 (by omega)
  have h3 := h 3 (by omega)
  have h4 := h 4 (by omega)
  have h5 := h 5 (by omega)
  have h6 := h 6 (by omega)
  have h7 := h 7 (by omega)
  unfold by8 at h0 h1 h2 h3 h4 h5 h6 h7
  simp only [Nat.mul_zero, Nat.pow_zero, Nat.div_one, Nat.reduceMul, Nat.reducePow] at h0 h1 h2 h3 h4 h5 h6 h7
  omega
end FL
