/-! ===== PURE: the reference's versions ===== -/
def vsN (A : tS) (p : Nat) : Nat := cn (fun i => A 42 ((A 35 15 + i) % 256) == p) 0 (A 35 16)
def vsA (x : Int32) (A : tS) : Int × tS := if x < 0 ∨ 34 + A 35 6 + A 35 7 ≤ x.toNatClampNeg then (-9, up2 A 35 0 0) else (((vsN A x.toNatClampNeg : Nat) : Int), up2 A 35 0 0)
section VS
variable {b0 fu : Nat} {σ τ : tM} {A B U : tS} {N N' K K' : Nat} {J : tJ}
theorem vs24 (h : RA b0 σ A) {p : Nat} (hp : p < 2147483648) (h5 : A 35 15 < 1000) (h6 : A 35 16 ≤ 256) : ∀ m k c f, k + m = A 35 16 → m < f → c + m < 100000 → L_X12_versions_24 b0 fu f (b0 + 35) (nI p) (nI c) (nI k) σ = some (nI (c + cn (fun i => A 42 ((A 35 15 + i) % 256) == p) k m), σ) := by
  have L := h.lay
  intro m
  induction m with
  | zero =>
    intro k c f hi hf hc
    obtain ⟨f, rfl⟩ : ∃ q, f = q + 1 := ⟨f - 1, by omega⟩
    unfold L_X12_versions_24
    rw [ltb_def, ckR_35 L, rf_16 h, if_l (by omega) (by omega), if_pos (by omega)]
    rfl
  | succ m ih =>
    intro k c f hi hf hc
    obtain ⟨f, rfl⟩ : ∃ q, f = q + 1 := ⟨f - 1, by omega⟩
    have b42 : A 42 ((A 35 15 + k) % 256) < 2147483648 := h.2.2 42 _
    have e1 : nI (A 35 15) + nI k = nI (A 35 15 + k) := nI_add _ _
    have e2 : nI (A 35 15 + k) / (256 : Int32) = nI ((A 35 15 + k) / 256) := nI_dv (d := 256) (by omega) (by omega) (by omega)
    have e3 : nI ((A 35 15 + k) / 256) * (256 : Int32) = nI ((A 35 15 + k) / 256 * 256) := pk_mul _ _
    have e4 : nI (A 35 15 + k) - nI ((A 35 15 + k) / 256 * 256) = nI ((A 35 15 + k) % 256) := by
      rw [nI_sb (by omega)]
      congr 1
      omega
    unfold L_X12_versions_24 J_X12_versions_54
    rw [ltb_def, ckR_35 L, rf_16 h, if_l (by omega) (by omega), if_neg (by omega), osm_p (rfR_35_11 L), ckR_42 L, rf_15 h, e1, e2, e3, e4, ckI_n (by omega) (by omega), nI_cl (by omega), rd_42 h, if_e b42 hp, ltb_def, ltb_def, ltb_def, ofi, ofi]
    rw [ih (k + 1) (c + 1) f (by omega) (by omega) (by omega), ih (k + 1) c f (by omega) (by omega) (by omega)]
    show _ = some (nI (c + (cn (fun i => A 42 ((A 35 15 + i) % 256) == p) k (m + 1))), σ)
    by_cases e : A 42 ((A 35 15 + k) % 256) = p
    · rw [if_pos e]
      simp [cn, e]
      congr 1
      omega
    · rw [if_neg e]
      simp [cn, e]
theorem versions_wp {x : Int32} (h : RM b0 J σ A N) (h5 : A 35 15 < 1000) (h6 : A 35 16 ≤ 256) (hl : A 35 6 ≤ 4096) (hr : A 35 7 ≤ 2000) (hu : 3000 ≤ fu) : wp (FR b0) σ (m_X12_versions b0 fu (b0 + 35) x σ) (fun v τ => v = iz (vsA x A).1 ∧ RM b0 J τ (vsA x A).2 N) := by
  have L := h.ra.lay
  have h1 : RM b0 J (sI σ (b0 + 35) 0 0) (up2 A 35 0 0) N := RM_fix (x := 0) h rfl (by decide) rfl (by decide)
  have fr : FR b0 σ (sI σ (b0 + 35) 0 0) := FR_sI (refO_f 35 (by omega) (by omega))
  refine wp_grw (FR_good b0) ?_
  unfold J_X12_versions_17 vsA
  rw [ckR_35 L]
  by_cases c : x < 0
  · rw [if_pos c, if_pos (Or.inl c)]
    exact wp_ret fr ⟨rfl, h1⟩
  · obtain ⟨m, hm, rfl⟩ := nI_of c
    rw [if_neg c, blocks_eq h1.ra, cll_some, up2_j (show (6 : Nat) ≠ 0 by decide), up2_j (show (7 : Nat) ≠ 0 by decide), if_t hm (by omega), nI_cl hm]
    by_cases c2 : m < 34 + A 35 6 + A 35 7
    · rw [if_pos c2, if_neg (fun r => by rcases r with r | r; exact c r; omega)]
      have e15 : up2 A 35 0 0 35 15 = A 35 15 := up2_j (by decide)
      have e16 : up2 A 35 0 0 35 16 = A 35 16 := up2_j (by decide)
      have e42 : up2 A 35 0 0 42 = A 42 := up2_rown (by decide)
      have lp := vs24 (fu := fu) h1.ra hm (by rw [e15]; exact h5) (by rw [e16]; exact h6) (A 35 16) 0 0 fu (by rw [e16]; omega) (by omega) (by omega)
      rw [e15, e42, Nat.zero_add] at lp
      show wp (FR b0) σ (L_X12_versions_24 b0 fu fu (b0 + 35) (nI m) (nI 0) (nI 0) (sI σ (b0 + 35) 0 0)) _
      rw [lp]
      exact wp_ret fr ⟨(iz_n _).symm, h1⟩
    · rw [if_neg c2, if_pos (Or.inr (by omega))]
      exact wp_ret fr ⟨rfl, h1⟩
end VS
