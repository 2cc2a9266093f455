/-! ===== PURE: the reference gets and frees blocks ===== -/
/-- n places from lo on set to v -/
def fl (o v : Nat) : Nat → Nat → (Nat → Nat → Nat) → Nat → Nat → Nat
  | _, 0, A => A
  | lo, n + 1, A => fl o v (lo + 1) n (up2 A o lo v)
theorem fl_at (o v : Nat) : ∀ n lo A p q, fl o v lo n A p q = if p = o ∧ lo ≤ q ∧ q < lo + n then v else A p q
  | 0, lo, A, p, q => by
    unfold fl
    rw [if_neg (by omega)]
  | n + 1, lo, A, p, q => by
    unfold fl
    rw [fl_at o v n (lo + 1) _ p q]
    unfold up2
    by_cases h : p = o ∧ lo ≤ q ∧ q < lo + (n + 1)
    · rw [if_pos h]
      by_cases h2 : q = lo
      · rw [if_neg (by omega), if_pos h.1, if_pos h2]
      · rw [if_pos ⟨h.1, by omega, by omega⟩]
    · rw [if_neg h, if_neg (by omega)]
      by_cases h1 : p = o
      · rw [if_pos h1, if_neg (by omega)]
      · rw [if_neg h1]
/-- a block got -/
def getA (A : Nat → Nat → Nat) (r : Nat) (me : Bool) : Nat → Nat → Nat :=
  up2 (fl 47 0 (256 * r) 256 (bif me then up2 (up2 (up2 (up2 (up2 A 35 34 (A 35 34 + 1)) 36 (6080 + r * 274) 1) 36 (6080 + r * 274 + 1) (A 35 34 + 1)) 51 1 1) 51 (34 + A 35 6 + r) 1 else up2 (up2 (up2 (up2 A 35 34 (A 35 34 + 1)) 36 (6080 + r * 274) 1) 36 (6080 + r * 274 + 1) (A 35 34 + 1)) 51 1 1)) 48 r 0
/-- a block freed -/
def freeA (A : Nat → Nat → Nat) (r : Nat) (me : Bool) : Nat → Nat → Nat :=
  let B := up2 (up2 (up2 (up2 A 36 (6080 + r * 274) 0) 51 1 1) 49 r 1) 48 r 0
  bif me then up2 (up2 B 51 (34 + A 35 6 + r) 0) 52 (34 + A 35 6 + r) 1 else B
section RG
variable {b0 fu : Nat} {σ τ : tM} {A : Nat → Nat → Nat} {N : Nat} {J : tJ}
theorem get69 {r : Nat} (hr : r < 2000) : ∀ m k n σ A, RM b0 J σ A N → k + m = 256 → m < n → wp (FR b0) σ (L_X12_get_69 b0 fu n (b0 + 35) (nI r) (nI k) σ) (fun v τ => v = nI r ∧ RM b0 J τ (up2 (fl 47 0 (256 * r + k) m A) 48 r 0) N) := by
  intro m
  induction m with
  | zero =>
    intro k n σ A h hk hn
    obtain ⟨n, rfl⟩ : ∃ q, n = q + 1 := ⟨n - 1, by omega⟩
    have L := h.ra.lay
    simp (disch := first | assumption | omega) only [L_X12_get_69, lits, nI_add, pk_mul, ofi, ltb_def, cll_some, grw_same, osm_some, ckZ_0, ckZ_1, nI_cl, nI_eqP, nI_leP, nI_ltP, nI_dv, nI_md, nI_sb, ckI_n, ckR_35 L]
    rw [if_pos (by omega)]
    simp (disch := first | assumption | omega) only [lits, nI_add, pk_mul, ofi, ltb_def, cll_some, grw_same, osm_some, ckZ_0, ckZ_1, nI_cl, nI_eqP, nI_leP, nI_ltP, nI_dv, nI_md, nI_sb, ckI_n, rfR_35_23 L, ckR_48 L]
    exact wp_ret (FR_sI (refO_f 48 (by omega) (by omega))) ⟨rfl, RM_fix h rfl (by decide) rfl (by decide)⟩
  | succ m ih =>
    intro k n σ A h hk hn
    obtain ⟨n, rfl⟩ : ∃ q, n = q + 1 := ⟨n - 1, by omega⟩
    have L := h.ra.lay
    have hi : 256 * r + k < 512000 := by omega
    simp (disch := first | assumption | omega) only [L_X12_get_69, lits, nI_add, pk_mul, ofi, ltb_def, cll_some, grw_same, osm_some, ckZ_0, ckZ_1, nI_cl, nI_eqP, nI_leP, nI_ltP, nI_dv, nI_md, nI_sb, ckI_n, ckR_35 L]
    rw [if_neg (by omega)]
    simp (disch := first | assumption | omega) only [lits, nI_add, pk_mul, ofi, ltb_def, cll_some, grw_same, osm_some, ckZ_0, ckZ_1, nI_cl, nI_eqP, nI_leP, nI_ltP, nI_dv, nI_md, nI_sb, ckI_n, rfR_35_22 L, ckR_47 L]
    exact wp_to (FR_good b0) (ih (k + 1) n _ _ (RM_fix (x := 0) h rfl (by decide) rfl (by decide)) (by omega) (by omega)) (FR_sI (refO_f 47 (by omega) (by omega)))
theorem get_loop {r : Nat} {me : Bool} (hr : r < 2000) (h : RM b0 J σ A N) (hf : frA A r = true) (hm : ∀ q, q < r → frA A q = false) (hN : N + 3 < 65536) (hs : A 35 34 + 1 < 1048576) (hl : A 35 6 ≤ 4096) (hu : 3000 ≤ fu) : ∀ m k n, k + m = r → m < n → wp (FR b0) σ (L_X12_get_2 b0 fu n (b0 + 35) (nI (bif me then 1 else 0)) (nI k) σ) (fun v τ => v = nI r ∧ RM b0 J τ (getA A r me) (N + 4)) := by
  intro m
  have L := h.ra.lay
  induction m with
  | zero =>
    intro k n hk hn
    obtain ⟨n, rfl⟩ : ∃ q, n = q + 1 := ⟨n - 1, by omega⟩
    have e : k = r := by omega
    subst e
    simp (disch := first | assumption | omega) only [L_X12_get_2, lits, nI_add, pk_mul, ofi, ltb_def, cll_some, grw_same, osm_some, ckZ_0, ckZ_1, nI_cl, nI_eqP, nI_leP, nI_ltP, nI_dv, nI_md, nI_sb, ckI_n, ckR_35 L]
    rw [isFree_eq h.ra hr, cll_some, hf, if_pos rfl, if_neg (by decide), room_eq, cll_some, rf_34 h.ra, nI_add, ckR_35 L]
    have uz : up2 A 35 34 (A 35 34 + 1) 36 (6080 + k * 274) = 0 := by
      rw [up2_o (by decide)]
      unfold frA at hf
      simp at hf
      exact hf.1
    have h1 : RM b0 J (sI σ (b0 + 35) 34 (nI (A 35 34 + 1))) (up2 A 35 34 (A 35 34 + 1)) N := RM_fix h rfl (by decide) rfl (by show A 35 34 + 1 < 2147483648; omega)
    refine wp_from (σ1 := sI σ (b0 + 35) 34 (nI (A 35 34 + 1))) (FR_good b0) (FR_sI (refO_f 35 (by omega) (by omega))) ?_
    rw [ckR_35 h1.ra.lay]
    refine wp_bind (FR_good b0) (put_wp (N' := N + 3) h1 (by omega) (by omega) (by rw [bT_r k (by omega)]; decide) (Or.inl (by have := usd_set hr uz; simp only [Nat.add_zero]; omega))) fun _ ρ h2 => ?_
    rw [room_eq, cll_some, ckR_35 h2.ra.lay, rf_34 h2.ra]
    have e1 : up2 (up2 A 35 34 (A 35 34 + 1)) 36 (6080 + k * 274 + 0) 1 35 34 = A 35 34 + 1 := by rw [up2_o (by decide), up2_s]
    rw [e1]
    refine wp_bind (FR_good b0) (put_wp (N' := N + 4) h2 (by omega) (by omega) (by rw [bT_r k (by omega)]; show _ < 1048576; omega) (Or.inl (by rw [usd_oth (by omega)]; omega))) fun _ ρ2 h3 => ?_
    rw [ckR_35 h3.ra.lay]
    refine wp_bind (FR_good b0) (tou_wp h3 (by omega)) fun _ ρ3 h4 => ?_
    cases me with
    | false =>
      rw [cond_false, if_pos rfl]
      exact get69 hr 256 0 fu ρ3 _ h4 (by omega) (by omega)
    | true =>
      rw [cond_true, if_neg (by decide), ckR_35 h4.ra.lay, numberOf_eq h4.ra, cll_some, ckR_35 h4.ra.lay]
      have e2 : up2 (up2 (up2 (up2 A 35 34 (A 35 34 + 1)) 36 (6080 + k * 274 + 0) 1) 36 (6080 + k * 274 + 1) (A 35 34 + 1)) 51 1 1 35 6 = A 35 6 := by rw [up2_o (by decide), up2_o (by decide), up2_o (by decide), up2_j (by decide)]
      rw [e2]
      refine wp_bind (FR_good b0) (tou_wp h4 (by omega)) fun _ ρ4 h5 => ?_
      exact get69 hr 256 0 fu ρ4 _ h5 (by omega) (by omega)
  | succ m ih =>
    intro k n hk hn
    obtain ⟨n, rfl⟩ : ∃ q, n = q + 1 := ⟨n - 1, by omega⟩
    simp (disch := first | assumption | omega) only [L_X12_get_2, lits, nI_add, pk_mul, ofi, ltb_def, cll_some, grw_same, osm_some, ckZ_0, ckZ_1, nI_cl, nI_eqP, nI_leP, nI_ltP, nI_dv, nI_md, nI_sb, ckI_n, ckR_35 L]
    rw [isFree_eq h.ra (by omega), cll_some, hm k (by omega), if_pos (show nI (if false = true then 1 else 0) = nI 0 from rfl)]
    exact ih (k + 1) n (by omega) (by omega)
theorem get_wp {r : Nat} {me : Bool} (hr : r < 2000) (h : RM b0 J σ A N) (hf : frA A r = true) (hm : ∀ q, q < r → frA A q = false) (hN : N + 3 < 65536) (hs : A 35 34 + 1 < 1048576) (hl : A 35 6 ≤ 4096) (hu : 3000 ≤ fu) : wp (FR b0) σ (m_X12_get b0 fu (b0 + 35) (nI (bif me then 1 else 0)) σ) (fun v τ => v = nI r ∧ RM b0 J τ (getA A r me) (N + 4)) :=
  wp_grw (FR_good b0) (get_loop hr h hf hm hN hs hl hu r 0 fu (by omega) (by omega))
theorem free_wp {r : Nat} {me : Bool} (hr : r < 2000) (h : RM b0 J σ A (N + 1)) (hU : A 36 (6080 + r * 274) = 1) (hN : N + 1 < 65536) (hl : A 35 6 ≤ 4096) : wp (FR b0) σ (m_X12_free b0 fu (b0 + 35) (nI r) (nI (bif me then 1 else 0)) σ) (fun _ τ => RM b0 J τ (freeA A r me) N) := by
  have L := h.ra.lay
  refine wp_grw (FR_good b0) ?_
  simp (disch := first | assumption | omega) only [lits, nI_add, pk_mul, ofi, nI_cl, nI_eqP, nI_leP, nI_ltP, nI_dv, nI_md, nI_sb, ckI_n, room_eq, cll_some, ckR_35 L]
  refine wp_bind (FR_good b0) (put_wp (N' := N) h hN (by omega) (by rw [bT_r r (by omega)]; decide) (Or.inl (by have := usd_clr hr hU; simp only [Nat.add_zero]; omega))) fun _ ρ h1 => ?_
  rw [ckR_35 h1.ra.lay]
  refine wp_bind (FR_good b0) (tou_wp h1 (by omega)) fun _ ρ2 h2 => ?_
  have L2 := h2.ra.lay
  simp (disch := first | assumption | omega) only [lits, nI_add, pk_mul, ofi, nI_cl, nI_eqP, nI_leP, nI_ltP, nI_dv, nI_md, nI_sb, ckI_n, ltb_def, cll_some, grw_same, osm_some, ckZ_0, ckZ_1, ckR_35 L2, rfR_35_24 L2, ckR_49 L2, rfR_35_23 L2, ckR_48 L2, rfR_35_26 L2, rfR_35_27 L2, rd_AI, rd_AL, rd_AIr, rd_ALr, rd_IL, rd_LI, rd_IA, rd_LA, rd_LIr, rd_ILr, ckR_sI, ckO_sI, ckR_sL, ckO_sL, ckR_sA, ckO_sA, ckR_sIr, ckO_sIr, ckR_sLr, ckO_sLr]
  have h3 : RM b0 J (sI ρ2 (b0 + 49) r (nI 1)) _ N := RM_fix (x := 1) h2 (o := 49) (j := r) rfl (by decide) rfl (by decide)
  have h4 : RM b0 J (sI (sI ρ2 (b0 + 49) r (nI 1)) (b0 + 48) r (vp_nar .boolean (nI 0))) _ N := RM_fix (x := 0) h3 (o := 48) (j := r) rfl (by decide) rfl (by decide)
  have f1 : FR b0 ρ2 (sI (sI ρ2 (b0 + 49) r (nI 1)) (b0 + 48) r (vp_nar .boolean (nI 0))) := (FR_good b0).2.1 _ _ _ (FR_sI (refO_f 49 (by omega) (by omega))) (FR_sI (refO_f 48 (by omega) (by omega)))
  cases me with
  | false =>
    rw [cond_false, if_pos rfl]
    exact wp_ret f1 h4
  | true =>
    rw [cond_true, if_neg (by decide), numberOf_eq h4.ra, cll_some]
    have e2 : up2 (up2 (up2 (up2 A 36 (6080 + r * 274 + 0) 0) 51 1 1) 49 r 1) 48 r 0 35 6 = A 35 6 := by rw [up2_o (by decide), up2_o (by decide), up2_o (by decide), up2_o (by decide)]
    rw [e2]
    have L4 := h4.ra.lay
    rw [ckR_51 L4, ckI_n (by omega) (by omega), nI_cl (by omega)]
    have h5 := RM_fix (x := 0) (v := vp_nar .boolean (nI 0)) h4 (o := 51) (j := 34 + A 35 6 + r) rfl (by decide) rfl (by decide)
    rw [ckR_35 h4.ra.lay, osm_p (rfR_35_27 h4.ra.lay), numberOf_eq h5.ra, cll_some]
    have e3 : up2 (up2 (up2 (up2 (up2 A 36 (6080 + r * 274 + 0) 0) 51 1 1) 49 r 1) 48 r 0) 51 (34 + A 35 6 + r) 0 35 6 = A 35 6 := by rw [up2_o (by decide), e2]
    rw [e3, ckR_52 h5.ra.lay, ckI_n (by omega) (by omega), nI_cl (by omega)]
    have h6 := RM_fix (x := 1) (v := vp_nar .boolean (nI 1)) h5 (o := 52) (j := 34 + A 35 6 + r) rfl (by decide) rfl (by decide)
    refine wp_ret ((FR_good b0).2.1 _ _ _ f1 ((FR_good b0).2.1 _ _ _ (FR_sI (refO_f 51 (by omega) (by omega))) (FR_sI (refO_f 52 (by omega) (by omega))))) h6
end RG
