/-! ===== PURE: the reference drops blocks and sets sizes ===== -/
def empA (A : Nat → Nat → Nat) (r : Nat) : Bool := decide (sr (fun k => pt A r k != 0) 0 32 = 32)
def drop2 (A : Nat → Nat → Nat) (n i d l : Nat) : Nat → Nat → Nat :=
  if empA (freeA (setP A d ((i - 40) / 32) 0) l true) d then freeA (setN (freeA (setP A d ((i - 40) / 32) 0) l true) n 94 0) d true else freeA (setP A d ((i - 40) / 32) 0) l true
def drop1 (A : Nat → Nat → Nat) (n i l : Nat) : Nat → Nat → Nat :=
  if empA A l then (if i < 40 then freeA (setN A n 93 0) l true else drop2 A n i (nd A n 94 - 1) l) else A
def dropA (A : Nat → Nat → Nat) (n i : Nat) : Nat → Nat → Nat :=
  if hasA A n i = 0 then A
  else if i < 8 then freeA (setN (up2 A 50 n 1) n (85 + i) 0) (hasA A n i - 1) (nd A n 0 == 2)
  else drop1 (freeA (setP (up2 A 50 n 1) (leafA A n i - 1) (plA i) 0) (hasA A n i - 1) (nd A n 0 == 2)) n i (leafA A n i - 1)
/-- what is used where a block is dropped -/
def dropOk (A : Nat → Nat → Nat) (n i : Nat) : Prop :=
  hasA A n i ≠ 0 → A 36 (6080 + (hasA A n i - 1) * 274) = 1 ∧ (8 ≤ i → A 36 (6080 + (leafA A n i - 1) * 274) = 1 ∧ hasA A n i ≠ leafA A n i ∧ (40 ≤ i → A 36 (6080 + (nd A n 94 - 1) * 274) = 1 ∧ nd A n 94 ≠ 0 ∧ nd A n 94 ≠ leafA A n i ∧ hasA A n i ≠ nd A n 94))
section RD
variable {b0 fu : Nat} {σ τ : tM} {A : Nat → Nat → Nat} {N : Nat} {J : tJ}
theorem isEmpty_loop (h : RA b0 σ A) (hT : okT A) {r : Nat} (hr : r < 2000) : ∀ m k n, k + m = 32 → m < n → L_X12_isEmpty_2 b0 fu n (b0 + 35) (nI r) (nI k) σ = some (nI (if sr (fun k => pt A r k != 0) k m = 32 then 1 else 0), σ) := by
  have L := h.lay
  intro m
  induction m with
  | zero =>
    intro k n hk hn
    obtain ⟨n, rfl⟩ : ∃ q, n = q + 1 := ⟨n - 1, by omega⟩
    simp (disch := first | assumption | omega) only [L_X12_isEmpty_2, lits, nI_add, pk_mul, ofi, ltb_def, cll_some, grw_same, osm_some, ckZ_0, ckZ_1, nI_cl, nI_eqP, nI_leP, nI_ltP, nI_dv, nI_md, nI_sb, ckI_n, ckR_35 L]
    rw [if_pos (by omega), if_pos (by unfold sr; omega)]
  | succ m ih =>
    intro k n hk hn
    obtain ⟨n, rfl⟩ : ∃ q, n = q + 1 := ⟨n - 1, by omega⟩
    simp (disch := first | assumption | omega) only [L_X12_isEmpty_2, lits, nI_add, pk_mul, ofi, ltb_def, cll_some, grw_same, osm_some, ckZ_0, ckZ_1, nI_cl, nI_eqP, nI_leP, nI_ltP, nI_dv, nI_md, nI_sb, ckI_n, ckR_35 L]
    have hp := pt_le hT r (k := k) (by omega)
    rw [if_neg (by omega), pointer_eq h hr (by omega), cll_some]
    show (if nI (pt A r k) = nI 0 then _ else _) = _
    rw [if_e (by omega) (by omega)]
    by_cases e : pt A r k = 0
    · rw [if_pos e, ih (k + 1) n (by omega) (by omega)]
      simp [sr, e]
    · rw [if_neg e]
      have : sr (fun k => pt A r k != 0) k (m + 1) = k := by simp [sr, e]
      rw [this, if_neg (by omega)]
theorem isEmpty_eq (h : RA b0 σ A) (hT : okT A) {r : Nat} (hr : r < 2000) (hu : 3000 ≤ fu) : m_X12_isEmpty b0 fu (b0 + 35) (nI r) σ = some (nI (if empA A r then 1 else 0), σ) := by
  unfold m_X12_isEmpty
  show grw σ (L_X12_isEmpty_2 b0 fu fu (b0 + 35) (nI r) (nI 0) σ) = _
  rw [isEmpty_loop h hT hr 32 0 fu (by omega) (by omega), grw_same]
  simp [empA]
theorem nd_setP {A : Nat → Nat → Nat} {r k v n w : Nat} (hn : n < 64) (hw : w < 95) : nd (setP A r k v) n w = nd A n w := by
  unfold nd setP
  rw [up2_o (by decide), up2_j (by omega)]
theorem nd_freeA {A : Nat → Nat → Nat} {r n w : Nat} {me : Bool} (hn : n < 64) (hw : w < 95) : nd (freeA A r me) n w = nd A n w := by
  unfold nd freeA
  cases me <;> simp only [cond_true, cond_false] <;> simp [up2] <;> omega
theorem pt_freeA {A : Nat → Nat → Nat} {r q k : Nat} {me : Bool} (hk : k < 32) : pt (freeA A r me) q k = pt A q k := by
  unfold pt freeA
  cases me <;> simp only [cond_true, cond_false] <;> simp [up2] <;> omega
theorem us_freeA {A : Nat → Nat → Nat} {r q : Nat} {me : Bool} (h : q ≠ r) : freeA A r me 36 (6080 + q * 274) = A 36 (6080 + q * 274) := by
  unfold freeA
  cases me <;> simp only [cond_true, cond_false] <;> simp [up2] <;> omega
theorem us_setP {A : Nat → Nat → Nat} {r k v q : Nat} (hk : k < 32) : setP A r k v 36 (6080 + q * 274) = A 36 (6080 + q * 274) := by
  unfold setP
  rw [up2_o (by decide), up2_j (by omega)]
theorem us_setN {A : Nat → Nat → Nat} {n w v q : Nat} (hn : n < 64) (hw : w < 95) : setN A n w v 36 (6080 + q * 274) = A 36 (6080 + q * 274) := by
  unfold setN
  rw [up2_o (by decide), up2_j (by omega)]
theorem freeA_35 (A : Nat → Nat → Nat) (r : Nat) (me : Bool) (j : Nat) : freeA A r me 35 j = A 35 j := by
  unfold freeA
  cases me <;> simp [up2]
theorem drop36 (h : RM b0 J σ A N) (hN : N + 1 < 65536) (hS : okS A) (hu : 3000 ≤ fu) {n i r : Nat} (hn : n < 64) (hi : i < 1064) (hr : r < 2000) (me : Bool) (u1 : A 36 (6080 + r * 274) = 1)
    (u2 : 8 ≤ i → leafA A n i ≠ 0 ∧ r ≠ leafA A n i - 1 ∧ A 36 (6080 + (leafA A n i - 1) * 274) = 1) (u3 : 40 ≤ i → A 36 (6080 + (nd A n 94 - 1) * 274) = 1 ∧ nd A n 94 ≠ 0 ∧ nd A n 94 ≠ leafA A n i ∧ r ≠ nd A n 94 - 1) : wp (FR b0) σ (J_X12_drop_36 b0 fu (b0 + 35) (nI n) (nI i) (nI r) (nI (bif me then 1 else 0)) σ) (fun _ τ => RM b0 J τ (if i < 8 then freeA (setN A n (85 + i) 0) r me else drop1 (freeA (setP A (leafA A n i - 1) (plA i) 0) r me) n i (leafA A n i - 1)) N) := by
  unfold J_X12_drop_36
  have L := h.ra.lay
  obtain ⟨s1, s2, s3⟩ := hS
  simp (disch := first | assumption | omega) only [lits, nI_add, pk_mul, ofi, nI_cl, nI_eqP, nI_leP, nI_ltP, nI_dv, nI_md, nI_sb, ckI_n, ckR_35 L]
  by_cases e : i < 8
  · rw [if_neg (by omega), if_pos e]
    refine wp_bind (FR_good b0) (putNode_wp h (by omega) hn (by omega) (by unfold bN; repeat (first | omega | split))) fun v ρ h1 => ?_
    rw [ckR_35 h1.ra.lay]
    exact wp_bind (FR_good b0) (free_wp hr h1 (by rw [us_setN hn (by omega)]; exact u1) (by omega) (by rw [setN_o (by decide) (by decide)]; exact s1)) fun v2 ρ2 h2 => wp_ret ((FR_good b0).1 _) h2
  · obtain ⟨l1, l2, l3⟩ := u2 (by omega)
    have l4 := leaf_le h.ok hn hi
    have hp : plA i < 32 := plA_lt (by omega)
    rw [if_pos (by omega), if_neg e, leafOf_eq h.ra h.ok hn hi, cll_some, ltb_def, nI_sb (by omega), placeOf_eq (by omega) hi, cll_some, ckR_35 L]
    refine wp_bind (FR_good b0) (putPointer_wp h (by omega) (by omega) hp (by omega) s1) fun v ρ h1 => ?_
    rw [ckR_35 h1.ra.lay]
    refine wp_bind (FR_good b0) (free_wp hr h1 (by rw [us_setP hp]; exact u1) (by omega) (by rw [setP_o (by decide) (by decide)]; exact s1)) fun v2 ρ2 h2 => ?_
    have hl : leafA A n i - 1 < 2000 := by omega
    have fS6 : ∀ j, freeA (setP A (leafA A n i - 1) (plA i) 0) r me 35 j = A 35 j := fun j => by rw [freeA_35, setP_o (by decide) (by decide)]
    have us1 : ∀ q, q ≠ r → freeA (setP A (leafA A n i - 1) (plA i) 0) r me 36 (6080 + q * 274) = A 36 (6080 + q * 274) := fun q hq => by rw [us_freeA hq, us_setP hp]
    have nd1 : nd (freeA (setP A (leafA A n i - 1) (plA i) 0) r me) n 94 = nd A n 94 := by rw [nd_freeA hn (by omega), nd_setP hn (by omega)]
    rw [ckR_35 h2.ra.lay, isEmpty_eq h2.ra h2.ok hl hu, cll_some]
    unfold drop1
    rw [nd1]
    generalize hC : freeA (setP A (leafA A n i - 1) (plA i) 0) r me = C at h2 fS6 us1 nd1 ⊢
    cases he : empA C (leafA A n i - 1) with
    | false =>
      rw [if_pos (show nI (if false = true then 1 else 0) = nI 0 from rfl), if_neg (by decide)]
      exact wp_ret ((FR_good b0).1 _) h2
    | true =>
      rw [if_neg (show ¬ nI (if true = true then 1 else 0) = nI 0 by decide), if_pos rfl]
      by_cases e4 : i < 40
      · rw [if_neg (by omega), if_pos e4, ckR_35 h2.ra.lay]
        refine wp_bind (FR_good b0) (putNode_wp h2 (by omega) hn (by omega) (by decide)) fun v3 ρ3 h3 => ?_
        rw [ckR_35 h3.ra.lay]
        exact wp_bind (FR_good b0) (free_wp (me := true) hl h3 (by rw [us_setN hn (by omega), us1 _ (fun q => l2 q.symm)]; exact l3) (by omega) (by rw [setN_o (by decide) (by decide), fS6]; exact s1)) fun v4 ρ4 h4 => wp_ret ((FR_good b0).1 _) h4
      · obtain ⟨d1, d2, d3, d4⟩ := u3 (by omega)
        have d5 := nd_le h.ok (n := n) (w := 94) hn (by omega) (by omega)
        have hd : nd A n 94 - 1 < 2000 := by omega
        rw [if_pos (by omega), if_neg e4, ckR_35 h2.ra.lay, node_eq h2.ra hn (by omega), cll_some]
        show wp (FR b0) ρ2 (ltb (nI (nd C n 94) - nI 1) _) _
        rw [nd1, nI_sb (by omega), ltb_def, ckR_35 h2.ra.lay]
        refine wp_bind (FR_good b0) (putPointer_wp h2 (by omega) hd (by omega) (by omega) (by rw [fS6]; exact s1)) fun v3 ρ3 h3 => ?_
        rw [ckR_35 h3.ra.lay]
        have hk : (i - 40) / 32 < 32 := by omega
        refine wp_bind (FR_good b0) (free_wp (me := true) hl h3 (by rw [us_setP hk, us1 _ (fun q => l2 q.symm)]; exact l3) (by omega) (by rw [setP_o (by decide) (by decide), fS6]; exact s1)) fun v4 ρ4 h4 => ?_
        rw [ckR_35 h4.ra.lay, isEmpty_eq h4.ra h4.ok hd hu, cll_some]
        unfold drop2
        have fS7 : ∀ j, freeA (setP C (nd A n 94 - 1) ((i - 40) / 32) 0) (leafA A n i - 1) true 35 j = A 35 j := fun j => by rw [freeA_35, setP_o (by decide) (by decide), fS6]
        have us2 : freeA (setP C (nd A n 94 - 1) ((i - 40) / 32) 0) (leafA A n i - 1) true 36 (6080 + (nd A n 94 - 1) * 274) = 1 := by rw [us_freeA (by omega), us_setP hk, us1 _ (fun q => d4 q.symm)]; exact d1
        generalize hD : freeA (setP C (nd A n 94 - 1) ((i - 40) / 32) 0) (leafA A n i - 1) true = D at h4 fS7 us2 ⊢
        cases he2 : empA D (nd A n 94 - 1) with
        | false =>
          rw [if_pos (show nI (if false = true then 1 else 0) = nI 0 from rfl), if_neg (by decide)]
          exact wp_ret ((FR_good b0).1 _) h4
        | true =>
          rw [if_neg (show ¬ nI (if true = true then 1 else 0) = nI 0 by decide), if_pos rfl, ckR_35 h4.ra.lay]
          refine wp_bind (FR_good b0) (putNode_wp h4 (by omega) hn (by omega) (by decide)) fun v5 ρ5 h5 => ?_
          rw [ckR_35 h5.ra.lay]
          exact wp_bind (FR_good b0) (free_wp (me := true) hd h5 (by rw [us_setN hn (by omega)]; exact us2) (by omega) (by rw [setN_o (by decide) (by decide), fS7]; exact s1)) fun v6 ρ6 h6 => wp_ret ((FR_good b0).1 _) h6
theorem drop_wp (h : RM b0 J σ A N) (hN : N + 1 < 65536) (hS : okS A) (hu : 3000 ≤ fu) {n i : Nat} (hn : n < 64) (hi : i < 1064) (ho : dropOk A n i) : wp (FR b0) σ (m_X12_drop b0 fu (b0 + 35) (nI n) (nI i) σ) (fun _ τ => RM b0 J τ (dropA A n i) N) := by
  have L := h.ra.lay
  have l1 := has_le h.ok (n := n) (i := i) hn hi
  refine wp_grw (FR_good b0) ?_
  rw [ckR_35 L, has_eq h.ra h.ok hn hi, cll_some, ltb_def]
  unfold dropA
  by_cases z : hasA A n i = 0
  · rw [if_pos z, z, if_neg (show ¬ (0 : Int32) ≤ nI 0 - 1 by decide)]
    exact wp_ret ((FR_good b0).1 _) h
  · rw [if_neg z]
    obtain ⟨o1, o2⟩ := ho z
    have e6 : nI (hasA A n i) - 1 = nI (hasA A n i - 1) := nI_sb (a := hasA A n i) (b := 1) (by omega)
    rw [e6]
    show wp (FR b0) σ (if nI 0 ≤ nI (hasA A n i - 1) then _ else _) _
    rw [if_l (by omega) (by omega), if_pos (Nat.zero_le _), ckR_35 L, osm_p (rfR_35_25 L), ckR_50 L, ckI_n hn (by omega), nI_cl (by omega)]
    have hc : RM b0 J (sI σ (b0 + 50) n (vp_nar .boolean (1 : Int32))) (up2 A 50 n 1) N := RM_fix (x := 1) h (o := 50) (j := n) rfl (by decide) rfl (by decide)
    refine wp_from (σ1 := sI σ (b0 + 50) n (vp_nar .boolean (1 : Int32))) (FR_good b0) (FR_sI (refO_f 50 (by omega) (by omega))) ?_
    show wp (FR b0) _ (cll (m_X12_node b0 fu (b0 + 35) (nI n) (nI 0) (sI σ (b0 + 50) n (vp_nar .boolean (1 : Int32)))) _) _
    rw [node_eq hc.ra hn (by omega), cll_some]
    have b1 : nd A n 0 < 2147483648 := bd_36 h.ra _
    show wp (FR b0) _ (if nI (nd A n 0) = nI 2 then _ else _) _
    rw [if_e b1 (by omega)]
    have hlf : 8 ≤ i → leafA A n i ≠ 0 := fun h8 q => z (by unfold hasA; rw [if_neg (by omega), if_pos q])
    have key : ∀ me : Bool, wp (FR b0) (sI σ (b0 + 50) n (vp_nar .boolean (1 : Int32))) (J_X12_drop_36 b0 fu (b0 + 35) (nI n) (nI i) (nI (hasA A n i - 1)) (nI (bif me then 1 else 0)) (sI σ (b0 + 50) n (vp_nar .boolean (1 : Int32)))) (fun _ τ => RM b0 J τ (if i < 8 then freeA (setN (up2 A 50 n 1) n (85 + i) 0) (hasA A n i - 1) me else drop1 (freeA (setP (up2 A 50 n 1) (leafA A n i - 1) (plA i) 0) (hasA A n i - 1) me) n i (leafA A n i - 1)) N) := fun me =>
      drop36 hc hN hS hu hn hi (by omega) me o1 (fun h8 => ⟨hlf h8, fun q => (o2 h8).2.1 (by have : leafA (up2 A 50 n 1) n i = leafA A n i := rfl; have := hlf h8; omega), (o2 h8).1⟩) (fun h4 => ⟨((o2 (by omega)).2.2 h4).1, ((o2 (by omega)).2.2 h4).2.1, ((o2 (by omega)).2.2 h4).2.2.1, fun q => ((o2 (by omega)).2.2 h4).2.2.2 (by have : nd (up2 A 50 n 1) n 94 = nd A n 94 := rfl; have := ((o2 (by omega)).2.2 h4).2.1; omega)⟩)
    by_cases e : nd A n 0 = 2
    · rw [if_pos e, show (nd A n 0 == 2) = true by rw [e]; rfl]
      exact key true
    · rw [if_neg e, show (nd A n 0 == 2) = false by simpa using e]
      exact key false
end RD
