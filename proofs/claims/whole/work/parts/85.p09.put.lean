/-! ===== PURE: the reference's put, whole ===== -/
section RQ3
variable {b0 fu : Nat} {σ τ : tM} {A B : Nat → Nat → Nat} {ad ln c : Nat → Nat} {un nr nl ns N : Nat} {J : tJ}
theorem put_wp (h : RM b0 J σ A N) {at_ v N' : Nat} (hN : N < 65536) (ha : at_ < 554080) (hv0 : v < bT at_) (hU : 2 * usd (up2 A 36 at_ v) + 1 + N ≤ 2 * usd A + N' ∨ (A 36 at_ = v ∧ N ≤ N')) : wp (FR b0) σ (m_X12_put b0 fu (b0 + 35) (nI at_) (nI v) σ) (fun _ τ => RM b0 J τ (up2 A 36 at_ v) N') := by
  obtain ⟨hr, hT, ad, ln, U, un, hd, hl, hb, hu, hm⟩ := h
  have hv : v < 2147483648 := by have := bT_le at_; omega
  have L := hr.lay
  obtain ⟨h1, h2, ⟨s4, s36, s45⟩, h4⟩ := id hd
  obtain ⟨a1, a2, a3, a4, a5, a6, a7, a8⟩ := h1 2 rfl
  have ge2 : b0 ≤ ad 2 := by rcases a4 with q | q <;> omega
  have u2 : un ≤ ln 2 := by simpa [cntD] using a5
  refine wp_grw (FR_good b0) ?_
  rw [ckR_35 L, osm_p (rfR_35_1 L), ckR_36 L, ckI_n ha (by omega), nI_cl (by omega), rd_36 hr]
  by_cases e : A 36 at_ = v
  · rw [if_pos (by rw [e])]
    refine wp_ret ((FR_good b0).1 σ) ⟨?_, okT_up hT hv0, ad, ln, U, un, hd, hl, hb, ?_, ?_⟩
    · rw [← e, up2_id]; exact hr
    · rw [← e, up2_id]
      rw [← e, up2_id] at hU
      omega
    · rw [← e, up2_id]; exact hm
  · rw [if_neg (by rw [nI_eqP (bd_36 hr at_) hv]; exact e), osm_p a1, ckR_p a2 ⟨ge2, a3⟩, s4, if_e (by omega) (by omega)]
    have fin : ∀ (σ' : tM) (ad' ln' : Nat → Nat), RA b0 σ' A → RD0 b0 σ' ad' ln' (mix U J.1) (cntD un J.2.1 J.2.2.1) un J.2.1 J.2.2.1 → (ln' 2 = ln' 3 ∧ ∀ f, 37 ≤ f → f ≤ 43 → ln' f = 64) → ln' 2 ≤ 131072 → un < ln' 2 → wp (FR b0) σ' (J_X12_put_57 b0 fu (b0 + 35) (nI at_) (nI v) σ') (fun _ τ => RM b0 J τ (up2 A 36 at_ v) N') := by
      intro σ' ad' ln' r1 r2 r3 r4 r5
      refine wp_mono (put57 r1 r2 ⟨r5, by omega⟩ ha hv) fun _ τ _ q => ⟨q.1, okT_up hT hv0, ad', ln', _, un + 1, q.2, r3, r4, hU.elim (fun q => by omega) (fun q => absurd q.1 e), fun i hi => ?_, fun p s hs => ?_⟩
      · have w2 : up2 (up2 U 2 un at_) 3 un (A 36 at_) 2 i = if i = un then at_ else U 2 i := by simp [up2]
        have w3 : up2 (up2 U 2 un at_) 3 un (A 36 at_) 3 i = if i = un then A 36 at_ else U 3 i := by simp [up2]
        rw [w2, w3]
        by_cases q : i = un
        · rw [if_pos q, if_pos q]; exact ⟨ha, hT at_⟩
        · rw [if_neg q, if_neg q]; exact hm.1 i (by omega)
      obtain ⟨k1, k2⟩ := hm.2 p s hs
      refine ⟨by omega, ?_⟩
      have e2 : up2 (up2 U 2 un at_) 3 un (A 36 at_) 2 = upN (U 2) un at_ := by rw [up2_rown (by decide), up2_row]
      have e3 : up2 (up2 U 2 un at_) 3 un (A 36 at_) 3 = upN (U 3) un (A 36 at_) := by rw [up2_row, up2_rown (by decide)]
      rw [e2, e3, up2_row, und_push k1]
      exact k2
    by_cases g : un = ln 2
    · rw [if_pos g, osm_p a1]
      have m1 : nI 2 * nI un = nI (2 * ln 2) := by rw [pk_mul, g]
      have l2 : (2 : Int32) * nI un = nI (2 * ln 2) := m1
      have n2 : 2 * ln 2 ≤ 524288 := by omega
      rw [l2, longer_eq hr a2 ⟨ge2, a3⟩ (by omega), cll_some, osm_some]
      have r1 := grown_ra (a := ad 2) (n := ln 2) hr (f := 2) rfl
      have r2 := grown_rd hr hd (f := 2) rfl n2
      have r3 := grown_fr hr hd (f := 2) rfl n2
      refine wp_from (FR_good b0) r3 ?_
      have L1 := r1.lay
      obtain ⟨b1, b2, b3, b4, b5, b6, b7, b8⟩ := r2.1 3 rfl
      have L0 : LayR b0 (sIr (sN σ (b0 + tn σ) (.inr (0, 2 * ln 2)) (2 * ln 2)) (b0 + tn σ) (va_cpy (tI σ (ad 2)) (fun _ => 0) 0 0 (ln 2))) := layR_new L
      rw [ckR_35 L0]
      show wp (FR b0) (grown b0 σ (ad 2) 2 (ln 2)) (osm (tA (grown b0 σ (ad 2) 2 (ln 2)) (b0 + 35) 3) (fun a60 => cll (m_X12_longer b0 fu a60 (2 * tI (grown b0 σ (ad 2) 2 (ln 2)) (b0 + 35) 4) (grown b0 σ (ad 2) 2 (ln 2))) (fun v62 ρ63 => osm v62 (fun a65 => ckO b0 ρ63 (b0 + 35) 11 (J_X12_put_57 b0 fu (b0 + 35) (nI at_) (nI v) (sA ρ63 (b0 + 35) 3 (some a65))))))) _
      have e23 : upN ln 2 (2 * ln 2) 3 = ln 3 := upN_n (by decide)
      have ge3 : b0 ≤ upN ad 2 (b0 + tn σ) 3 := by rcases b4 with q | q <;> omega
      have l3 : (2 : Int32) * tI (grown b0 σ (ad 2) 2 (ln 2)) (b0 + 35) 4 = nI (2 * ln 3) := by
        rw [r2.2.2.1.1, ← hl.1, ← g]
        exact pk_mul 2 un
      rw [osm_p b1, l3]
      rw [e23] at b2
      rw [longer_eq r1 b2 ⟨ge3, b3⟩ (by omega), cll_some, osm_some]
      have n3 : 2 * upN ln 2 (2 * ln 2) 3 ≤ 524288 := by rw [e23]; omega
      have t1 := grown_ra (a := upN ad 2 (b0 + tn σ) 3) (n := ln 3) r1 (f := 3) rfl
      have t2 := grown_rd r1 r2 (f := 3) rfl n3
      have t3 := grown_fr r1 r2 (f := 3) rfl n3
      rw [e23] at t2 t3
      refine wp_from (FR_good b0) t3 ?_
      rw [ckO_sIr, ckR_35 (layR_new L1)]
      refine fin _ _ _ t1 t2 ⟨?_, fun f f1 f2 => ?_⟩ ?_ ?_
      · rw [upN_n (by decide), upN_s, upN_s]; omega
      · rw [upN_n (by omega), upN_n (by omega)]
        exact hl.2 f f1 f2
      · rw [upN_n (by decide), upN_s]; omega
      · rw [upN_n (by decide), upN_s]; omega
    · rw [if_neg g]
      exact fin σ ad ln hr hd hl hb (by omega)
theorem RM_fix (h : RM b0 J σ A N) {o j x : Nat} {v : Int32} (ho : isA o j = true) (h4 : o ≠ 36) (hv : v = decA o j x) (hx : x < bndA o) : RM b0 J (sI σ (b0 + o) j v) (up2 A o j x) N := by
  obtain ⟨hr, hT, ad, ln, U, un, hd, hl, hb, hu, hm⟩ := h
  refine ⟨RA_up hr hv hx, okT_oth hT h4, ad, ln, U, un, RD0_fix hd (isA_o ho) (fun e => ?_), hl, hb, by rw [usd_obj h4]; exact hu, ?_⟩
  · subst e
    refine ⟨fun q => ?_, fun q => ?_, fun q => ?_⟩ <;> (subst q; cases ho)
  · rw [up2_rown (fun e => h4 e.symm)]; exact hm
theorem RM_le (h : RM b0 J σ A N) {N2 : Nat} (hN : N ≤ N2) : RM b0 J σ A N2 := by
  obtain ⟨hr, hT, ad, ln, U, un, hd, hl, hb, hu, hm⟩ := h
  exact ⟨hr, hT, ad, ln, U, un, hd, hl, hb, by omega, hm⟩
theorem tou_wp (h : RM b0 J σ A N) {b : Nat} (hb : b < 6200) : wp (FR b0) σ (m_X12_touch b0 fu (b0 + 35) (nI b) σ) (fun _ τ => RM b0 J τ (up2 A 51 b 1) N) := by
  have L := h.ra.lay
  simp (disch := first | assumption | omega) only [m_X12_touch, lits, nI_add, pk_mul, ofi, ltb_def, cll_some, grw_same, osm_some, ckZ_0, ckZ_1, nI_cl, nI_eqP, nI_leP, nI_ltP, nI_dv, nI_md, nI_sb, ckI_n, ckR_35 L, rfR_35_26 L, ckR_51 L]
  exact wp_grw (FR_good b0) (wp_ret (FR_sI (refO_f 51 (by omega) (by omega))) (RM_fix h rfl (by decide) rfl (by decide)))
end RQ3
