/-! ===== PURE: sum, in both ===== -/
section SUMS
variable {Φ : tPh} {b0 fu : Nat} {σ τ : tM} {bi sp : Nat → Nat} {w : Nat → Nat × Nat} {C C' X : tS} {D D' : tD} {A B : tS} {J J' : tJ} {K n m k r t d l v : Nat}
theorem u32_m (h : Int32) : h.toInt64 &&& 4294967295 = lN h.toBitVec.toNat := by
  apply wb_inj
  rw [Int64.toBitVec_and, wb_tb, Int32.toBitVec_toInt64]
  apply BitVec.eq_of_toNat_eq
  have hl := h.toBitVec.isLt
  have e : (4294967295 : Int64).toBitVec = BitVec.ofNat 64 (2 ^ 32 - 1) := rfl
  rw [e, BitVec.toNat_and, BitVec.toNat_ofNat, BitVec.toNat_ofNat, BitVec.toNat_signExtend, Nat.mod_eq_of_lt (show 2 ^ 32 - 1 < 2 ^ 64 by decide), Nat.and_two_pow_sub_one_eq_mod, Nat.mod_eq_of_lt (show h.toBitVec.toNat < 2 ^ 64 by omega), BitVec.toNat_setWidth, Nat.mod_eq_of_lt (show h.toBitVec.toNat < 2 ^ 64 by omega)]
  split <;> omega
theorem sub_pos {a b : Nat} (ha : a < 2147483648) (hb : b < 2147483648) : (0 : Int32) < nI a - nI b ↔ b < a := by
  have e : nI a - nI b = iz ((a : Int) - (b : Int)) := by
    unfold iz
    rw [Int32.ofInt_sub]
    rfl
  rw [e, Int32.lt_iff_toInt_lt]
  unfold iz
  rw [Int32.toInt_ofInt_of_le (by omega) (by omega)]
  have z : (0 : Int32).toInt = 0 := by decide
  rw [z]
  omega
theorem n_L {c : Nat} (h : c < 2147483648) : (nI c).toInt64 = lN c := by
  have := u32_m (nI c)
  have e : (nI c).toBitVec.toNat = c := by
    show (BitVec.ofNat 32 c).toNat = c
    rw [BitVec.toNat_ofNat, Nat.mod_eq_of_lt (by omega)]
  rw [e] at this
  rw [← this]
  apply wb_inj
  rw [Int64.toBitVec_and, Int32.toBitVec_toInt64]
  apply BitVec.eq_of_toNat_eq
  have m : (nI c).toBitVec.msb = false := by
    rw [BitVec.msb_eq_decide, e]
    exact decide_eq_false (by omega)
  have e3 : (4294967295 : Int64).toBitVec = BitVec.ofNat 64 (2 ^ 32 - 1) := rfl
  rw [e3, BitVec.toNat_and, BitVec.toNat_ofNat, BitVec.toNat_signExtend, m, Nat.mod_eq_of_lt (show 2 ^ 32 - 1 < 2 ^ 64 by decide), Nat.and_two_pow_sub_one_eq_mod, BitVec.toNat_setWidth, e, Nat.mod_eq_of_lt (show c < 2 ^ 64 by omega)]
  show c + 0 = (c + 0) % 2 ^ 32
  rw [Nat.add_zero, Nat.mod_eq_of_lt (by omega)]
/-- how sum ends -/
def SMZ (Φ : tPh) (b0 : Nat) (D : tD) (J : tJ) (v : Int64 ⊕ Unit) (τ : tM) (X : Int64 × tS) : Prop :=
  (v = .inl X.1 ∧ X.2 35 0 = 0 ∧ ∃ bi sp w C' D', CM b0 τ C' D' ∧ RO Φ bi sp w C' D' X.2 J ∧ EL D D' 0 0) ∨
  (v = .inr () ∧ X.2 35 0 = 1 ∧ ∃ bi sp C' D', CM b0 τ C' D' ∧ OF Φ bi sp C' D' X.2 J ∧ EL D D' 6 1)
theorem sum_c {x p q : Int32} (hu : 20000 ≤ fu) (h : CM b0 σ C D) (hR : ST (PH t) bi sp w C D A J) (hH : A 35 18 = 1 → HO A) : wp (FC b0) σ (m_X10_sum b0 fu (b0 + 0) x p q σ) (fun v τ => SMZ (PH t) b0 D J v τ (smX x p q A)) := by
  have hΦ := PH_good t
  have hok : ∀ w A, PH t w A → okT A := PH_ok
  have L := h.lay
  refine wp_grw (FC_good b0) ?_
  rw [ckC_0 L, osm_p (rfC_0_0 L), ckC_1 L]
  rcases hR with z | z
  · have on : A 35 18 = 1 := z.2.2.2.2.2.2.1
    have z' := RO_scr hΦ hok z (sC_0 (A := A) (v := 0))
    have hH := HO_0 (v := 0) (hH on)
    have ex : smX x p q A = smY x p q (up2 A 35 0 0) := by
      unfold smX
      rw [if_neg (by omega)]
    have h0 : up2 A 35 0 0 35 0 = 0 := up2_s A 35 0 0
    rw [power_on h z, ex]
    generalize up2 A 35 0 0 = A at *
    have S := z'.2.1
    have id : ∀ v : Int64, SMZ (PH t) b0 D J (.inl v) σ (v, A) := fun v => Or.inl ⟨rfl, h0, bi, sp, w, C, D, h, z', EL_r⟩
    show wp (FC b0) σ (ckO b0 σ (b0 + 0) 10 _) _
    unfold J_X10_sum_34
    rw [ckC_0 L, fileOf_c h.ca S.zm.2.2.2.2.2.2.2.2.1 x, cll_some]
    cases e : hdA A x with
    | none =>
      show wp (FC b0) σ (if (-9 : Int32) < 0 then _ else _) _
      rw [if_pos (by decide)]
      have ey : smY x p q A = (-9, A) := by
        unfold smY
        rw [e]
      rw [ey]
      exact wp_ret ((FC_good b0).1 _) (id (-9))
    | some n =>
      obtain ⟨n1, n2⟩ := hd_HO hH e
      have ey : smY x p q A = if p < 0 ∨ q < 0 ∨ (16384 : Int32) < q then (-9, A) else (smV (smC A n p.toNatClampNeg q.toNatClampNeg) (hsA A n p.toNatClampNeg (smC A n p.toNatClampNeg q.toNatClampNeg) 0), A) := by
        unfold smY
        rw [e]
      rw [ey]
      show wp (FC b0) σ (if nI n < 0 then _ else _) _
      rw [if_neg (neg_nI (by omega))]
      by_cases c1 : p < 0
      · rw [if_pos c1, if_pos (Or.inl c1)]
        exact wp_ret ((FC_good b0).1 _) (id (-9))
      rw [if_neg c1]
      by_cases c2 : q < 0
      · rw [if_pos c2, if_pos (Or.inr (Or.inl c2))]
        exact wp_ret ((FC_good b0).1 _) (id (-9))
      rw [if_neg c2]
      obtain ⟨a, ha, rfl⟩ := nI_of c1
      obtain ⟨b, hb, rfl⟩ := nI_of c2
      by_cases c3 : b ≤ 16384
      · have nn : ¬ (nI a < 0 ∨ nI b < 0 ∨ (16384 : Int32) < nI b) := fun r => by
          rcases r with r | r | r
          · exact c1 r
          · exact c2 r
          · have := (nI_ltP (a := 16384) (b := b) (by omega) hb).mp r
            omega
        have b1 := (nd_k S.ok n1).2.1
        obtain ⟨k0, k1⟩ := hd_c S.ok S.mr n1
        have k3 := (k1 (by omega)).2.2
        rw [if_neg (by omega)] at k3
        have mx : (if (0 : Int32) < nI (nd A n 1) - nI a then nI (nd A n 1) - nI a else 0) = nI (nd A n 1 - a) := by
          by_cases y : a < nd A n 1
          · rw [if_pos ((sub_pos (by omega) ha).mpr y)]
            exact nI_sb (by omega)
          · rw [if_neg (fun r => y ((sub_pos (by omega) ha).mp r)), show nd A n 1 - a = 0 by omega]
            rfl
        have mn : (if nI (nd A n 1 - a) < nI b then nI (nd A n 1 - a) else nI b) = nI (smC A n a b) := by
          rw [if_t (by omega) hb]
          unfold smC
          by_cases y : nd A n 1 - a < b
          · rw [if_pos y, if_neg (by omega)]
          · rw [if_neg y, if_pos (by omega)]
        have cb : smC A n a b ≤ 16384 ∧ smC A n a b ≤ nd A n 1 - a := by
          unfold smC
          split <;> omega
        rw [if_neg nn, nI_cl ha, nI_cl hb, if_pos (show nI b ≤ (16384 : Int32) from (nI_leP (a := b) (b := 16384) hb (by omega)).mpr c3), ckC_0 L, osm_p (rfC_0_2 L), ckC_18 L, size_c h.ca n1, cll_some, k3, ltb_def, mx, ltb_def, mn, ckC_0 L, osm_p (rfC_0_2 L), ckC_18 L]
        have ck : m_X8_checksum b0 fu (b0 + 18) (nI n) (nI a) (nI (smC A n a b)) σ = some (lN (hsA A n a (smC A n a b) 0).toBitVec.toNat, σ) := by
          by_cases y : smC A n a b = 0
          · rw [y]
            exact checksum_0 h.ca n1 ha (by omega)
          · rw [ck_eq S n1 n2 _ _ _ (by omega)]
            exact checksum_c h.ca S.rk.1 n1 (by omega) (by omega) hu cb.1
        rw [ck, cll_some, n_L (by omega)]
        unfold smV
        rw [u32_m]
        exact wp_ret ((FC_good b0).1 _) (id _)
      · rw [if_neg (show ¬ nI b ≤ (16384 : Int32) from fun r => c3 ((nI_leP (a := b) (b := 16384) hb (by omega)).mp r)), if_pos (show nI a < 0 ∨ nI b < 0 ∨ (16384 : Int32) < nI b from Or.inr (Or.inr ((nI_ltP (a := 16384) (b := b) (by omega) hb).mpr (by omega))))]
        exact wp_ret ((FC_good b0).1 _) (id (-9))
  · have off : A 35 18 = 0 := z.2.1
    refine wp_clx (FC_good b0) (power_off (fu := fu) hΦ hok h z) (fun v ρ y => by cases y.1) (fun ρ y => ?_)
    obtain ⟨-, z1, z2, z3⟩ := y
    have e : smX x p q A = (0, up2 (up2 A 35 0 0) 35 0 1) := by
      unfold smX
      rw [if_pos off]
    rw [e]
    exact Or.inr ⟨rfl, up2_s (up2 A 35 0 0) 35 0 1, bi, sp, C, _, z1, OF_scr hΦ hok (OF_scr hΦ hok z2 (sC_0 (v := 0))) (sC_0 (v := 1)), z3⟩
end SUMS
