/-! ===== PURE: the reference's crash ===== -/
def crA (A : tS) : Int × tS := if A 35 18 = 0 then (0, up2 (up2 A 35 0 0) 35 0 1) else (((powA (up2 A 35 0 0) 35 16 : Nat) : Int), powA (up2 A 35 0 0))
/-- cut: how many acts are left, and one -/
def cuA (x : Int32) (A : tS) : Int × tS := if x < -1 then (-9, up2 A 35 0 0) else (x.toInt, up2 (up2 A 35 0 0) 35 19 (x.toInt + 1).toNat)
section CR
variable {b0 fu : Nat} {σ τ : tM} {A B U : tS} {N N' K K' : Nat} {J : tJ}
theorem crash_wp (h : RM b0 J σ A N) (hu : 10000 ≤ fu) : wp (FR b0) σ (m_X12_crash b0 fu (b0 + 35) σ) (fun v τ => v = iz (crA A).1 ∧ RM b0 J τ (crA A).2 N) := by
  have L := h.ra.lay
  have b18 := bd_35 h.ra 18
  have h1 : RM b0 J (sI σ (b0 + 35) 0 0) (up2 A 35 0 0) N := RM_fix (x := 0) h rfl (by decide) rfl (by decide)
  refine wp_grw (FR_good b0) ?_
  rw [ckR_35 L, rf_18 h1.ra, up2_j (show (18 : Nat) ≠ 0 by decide)]
  show wp (FR b0) σ (if nI (A 35 18) = nI 0 then _ else _) _
  rw [if_e b18 (by omega)]
  unfold crA
  by_cases e : A 35 18 = 0
  · simp only [if_pos e]
    refine wp_from (FR_good b0) (FR_sI (v := 0) (j := 0) (refO_f 35 (by omega) (by omega))) (wp_bind (FR_good b0) (off_wp (fu := fu) h1) ?_)
    intro v ρ ⟨e1, h2⟩
    exact wp_ret ((FR_good b0).1 _) ⟨e1, h2⟩
  · simp only [if_neg e]
    refine wp_from (FR_good b0) (FR_sI (v := 0) (j := 0) (refO_f 35 (by omega) (by omega))) (wp_bind (FR_good b0) (powerOff_wp (fu := fu) h1 hu) ?_)
    intro _ ρ h2
    rw [ckR_35 h2.ra.lay, rf_16 h2.ra]
    exact wp_ret ((FR_good b0).1 _) ⟨(iz_n _).symm, h2⟩
theorem RM_cut (h : RM b0 J σ A N) {x : Nat} {v : Int32} (hv : v = nI x - 1) (hx : x < 2147483649) : RM b0 J (sI σ (b0 + 35) 19 v) (up2 A 35 19 x) N := by
  obtain ⟨hr, hT, ad, ln, U, un, hd, hl, hb, hu, hm⟩ := h
  have ra : RA b0 (sI σ (b0 + 35) 19 v) (up2 A 35 19 x) := by
    refine ⟨hr.1, fun p q e => ?_, fun p q => ?_⟩
    · rw [rd_II]
      by_cases hp : p = 35
      · subst hp
        rw [if_pos rfl]
        by_cases hq : q = 19
        · subst hq
          rw [if_pos rfl, up2_s, hv]
          rfl
        · rw [if_neg hq, up2_j hq, hr.2.1 35 q e]
      · rw [if_neg (by omega), up2_o hp, hr.2.1 p q e]
    · by_cases hp : p = 35
      · subst hp
        by_cases hq : q = 19
        · subst hq
          rw [up2_s]
          exact hx
        · rw [up2_j hq]
          exact hr.2.2 35 q
      · rw [up2_o hp]
        exact hr.2.2 p q
  refine ⟨ra, okT_oth hT (by decide), ad, ln, U, un, RD0_fix hd (isA_o (o := 35) (j := 19) rfl) (fun e => ?_), hl, hb, by rw [usd_obj (by decide)]; exact hu, ?_⟩
  · refine ⟨fun q => ?_, fun q => ?_, fun q => ?_⟩ <;> cases q
  · rw [up2_rown (by decide)]; exact hm
theorem cut_x {x : Int32} (h : ¬ x < -1) : x = nI (x.toInt + 1).toNat - 1 ∧ (x.toInt + 1).toNat < 2147483649 := by
  by_cases c : x < 0
  · have e : x = -1 := by
      rw [Int32.lt_iff_toInt_lt] at c h
      have e1 : (-1 : Int32).toInt = -1 := by decide
      have e2 : (0 : Int32).toInt = 0 := by decide
      rw [e1] at h
      rw [e2] at c
      apply Int32.toInt_inj.mp
      rw [e1]
      omega
    subst e
    decide
  · obtain ⟨m, hm, rfl⟩ := nI_of c
    have e : (nI m).toInt = (m : Int) := nI_toInt hm
    rw [e, show ((m : Int) + 1).toNat = m + 1 by omega, show nI (m + 1) - 1 = nI m from nI_sb (a := m + 1) (b := 1) (by omega)]
    exact ⟨rfl, by omega⟩
theorem cut_wp {x : Int32} (h : RM b0 J σ A N) : wp (FR b0) σ (m_X12_cut b0 fu (b0 + 35) x σ) (fun v τ => v = iz (cuA x A).1 ∧ RM b0 J τ (cuA x A).2 N) := by
  have L := h.ra.lay
  have h1 : RM b0 J (sI σ (b0 + 35) 0 0) (up2 A 35 0 0) N := RM_fix (x := 0) h rfl (by decide) rfl (by decide)
  refine wp_grw (FR_good b0) ?_
  rw [ckR_35 L]
  unfold cuA
  by_cases c : x < -1
  · rw [if_neg (Int32.not_le.mpr c), if_pos c]
    exact wp_ret (FR_sI (refO_f 35 (by omega) (by omega))) ⟨rfl, h1⟩
  · obtain ⟨e1, e2⟩ := cut_x c
    rw [if_pos (Int32.not_lt.mp c), if_neg c]
    exact wp_ret ((FR_good b0).2.1 _ _ _ (FR_sI (refO_f 35 (by omega) (by omega))) (FR_sI (refO_f 35 (by omega) (by omega)))) ⟨(Int32.ofInt_toInt x).symm, RM_cut h1 e1 e2⟩
end CR
