/-! ===== PURE: a checksum, in both ===== -/
section SRZ
variable {bi : Nat → Nat} {w : Nat → Nat × Nat} {C A : tS} {n : Nat}
theorem ck_step (x : Int32) (b : Nat) : (31 * x + nI b).toBitVec.toNat = (31 * x.toBitVec.toNat + b) % 4294967296 := by
  have e1 : (nI b).toBitVec.toNat = b % 4294967296 := by
    show (BitVec.ofNat 32 b).toNat = _
    rw [BitVec.toNat_ofNat]
  have e2 : (31 : Int32).toBitVec.toNat = 31 := rfl
  rw [Int32.toBitVec_add, Int32.toBitVec_mul, BitVec.toNat_add, BitVec.toNat_mul, e1, e2]
  show (31 * x.toBitVec.toNat % 4294967296 + b % 4294967296) % 4294967296 = _
  omega
theorem ck_eq (h : SR bi w C A) (hn : n < 64) (hk : nd A n 0 = 1) : ∀ m p (x : Int32), p + m ≤ 272384 → (hsA A n p m x).toBitVec.toNat = ckS C n p m x.toBitVec.toNat
  | 0, _, _, _ => rfl
  | m + 1, p, x, hp => by
    show (hsA A n (p + 1) m (31 * x + nI (boA A n p))).toBitVec.toNat = ckS C n (p + 1) m ((31 * x.toBitVec.toNat + ocC C (ptC C n (p / 256) % 2048) (p % 256)) % 4294967296)
    rw [ck_eq h hn hk m (p + 1) _ (by omega), ck_step, oct_eq h hn hk (by omega)]
end SRZ
