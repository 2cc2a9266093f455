/-! ===== PURE: the reference's versions and flushes ===== -/
abbrev tS : Type := Nat → Nat → Nat
/-- what was done, or the state in which power failed -/
def bX (x : tS ⊕ tS) (f : tS → tS ⊕ tS) : tS ⊕ tS := match x with | .inl A => f A | .inr B => .inr B
def RX (b0 : Nat) (J : tJ) (N : Nat) (v : Unit ⊕ Unit) (τ : tM) (x : tS ⊕ tS) : Prop := match x with
  | .inl A => v = .inl () ∧ RM b0 J τ A N
  | .inr A => v = .inr () ∧ RM b0 J τ A N
def verX (A : tS) (b wh id : Nat) : tS ⊕ tS := if A 35 19 = 1 then .inr (powA A) else .inl (verA A b wh id)
def fluX (A : tS) : tS ⊕ tS := if A 35 19 = 1 then .inr (powA A) else .inl (fluA A)
section DL
variable {b0 fu : Nat} {σ τ : tM} {A : Nat → Nat → Nat} {N K : Nat} {J : tJ}
theorem wpX {x : Option ((Unit ⊕ Unit) × tM)} {k : Unit → tM → Option ((Unit ⊕ Unit) × tM)} {X : tS ⊕ tS} {f : tS → tS ⊕ tS} (h : wp (FR b0) σ x (fun v τ => RX b0 J N v τ X)) (c : ∀ A ρ, X = .inl A → RM b0 J ρ A N → wp (FR b0) ρ (k () ρ) (fun v τ => RX b0 J N v τ (f A))) : wp (FR b0) σ (clx x k) (fun v τ => RX b0 J N v τ (bX X f)) := by
  cases X with
  | inl A =>
    refine wp_clx (FR_good b0) h (fun v ρ q => c A ρ rfl q.2) (fun ρ q => ?_)
    exact absurd q.1 (fun e => by cases e)
  | inr A =>
    refine wp_clx (FR_good b0) h (fun v ρ q => ?_) (fun ρ q => q)
    exact absurd q.1 (fun e => by cases e)
theorem actA_35 (A : tS) (j : Nat) (h1 : j ≠ 19) (h2 : j ≠ 20) : actA A 35 j = A 35 j := by
  unfold actA
  rw [up2_j h2]
  split
  · rw [up2_j h1]
  · rfl
theorem actA_o (A : tS) {o : Nat} (j : Nat) (h : o ≠ 35) : actA A o j = A o j := by
  unfold actA
  rw [up2_o h]
  split
  · rw [up2_o h]
  · rfl
theorem dsk_act (h : dsk A (K + 1)) : dsk (actA A) K := by
  obtain ⟨d1, d2, d3, d4, d5, d6, d7⟩ := h
  have e20 : actA A 35 20 = A 35 20 + 1 := up2_s _ _ _ _
  unfold dsk slOk
  rw [actA_35 A 6 (by decide) (by decide), actA_35 A 7 (by decide) (by decide), actA_35 A 15 (by decide) (by decide), actA_35 A 16 (by decide) (by decide), actA_35 A 21 (by decide) (by decide), e20]
  refine ⟨d1, d2, d3, d4, by omega, by omega, fun i hi => ?_⟩
  rw [actA_o A _ (by decide), actA_o A _ (by decide)]
  exact d7 i hi
theorem kpA_35 (A : tS) (s j : Nat) : kpA A s 35 j = A 35 j := by
  unfold kpA
  split
  · rw [upR_o (by decide), up2_o (by decide), up2_o (by decide)]
  · rw [up2_o (by decide), up2_o (by decide)]
theorem kpA_o (A : tS) (s : Nat) {o : Nat} (j : Nat) (h1 : o ≠ 39) (h2 : o ≠ 40) (h3 : o ≠ 41) : kpA A s o j = A o j := by
  unfold kpA
  split
  · rw [upR_o h3, up2_o h2, up2_o h1]
  · rw [up2_o h2, up2_o h1]
theorem koA_35 (A : tS) (j : Nat) (h1 : j ≠ 15) (h2 : j ≠ 16) : koA A 35 j = A 35 j := by
  unfold koA
  rw [up2_j h2, up2_j h1, kpA_35]
theorem koA_15 (A : tS) : koA A 35 15 = (A 35 15 + 1) % 256 := by
  unfold koA
  rw [up2_j (by decide), up2_s]
theorem koA_16 (A : tS) : koA A 35 16 = A 35 16 - 1 := up2_s _ _ _ _
theorem koA_o (A : tS) {o : Nat} (j : Nat) (h0 : o ≠ 35) (h1 : o ≠ 39) (h2 : o ≠ 40) (h3 : o ≠ 41) : koA A o j = A o j := by
  unfold koA
  rw [up2_o h0, up2_o h0, kpA_o A _ j h1 h2 h3]
theorem dsk_ko (h : dsk A K) (h0 : 0 < A 35 16) : dsk (koA A) K := by
  obtain ⟨d1, d2, d3, d4, d5, d6, d7⟩ := h
  unfold dsk slOk
  rw [koA_35 A 6 (by decide) (by decide), koA_35 A 7 (by decide) (by decide), koA_35 A 20 (by decide) (by decide), koA_35 A 21 (by decide) (by decide), koA_15, koA_16]
  refine ⟨d1, d2, by omega, by omega, d5, d6, fun i hi => ?_⟩
  rw [koA_o A _ (by decide) (by decide) (by decide) (by decide), koA_o A _ (by decide) (by decide) (by decide) (by decide)]
  have := d7 (i + 1) (by omega)
  rw [show ((A 35 15 + 1) % 256 + i) % 256 = (A 35 15 + (i + 1)) % 256 by omega]
  exact this
theorem dsk_ve2 (h : dsk A K) : dsk (ve2 A) K ∧ ve2 A 35 16 < 256 ∧ (∀ j, j ≠ 15 → j ≠ 16 → ve2 A 35 j = A 35 j) ∧ (∀ o j, o ≠ 35 → o ≠ 39 → o ≠ 40 → o ≠ 41 → ve2 A o j = A o j) := by
  unfold ve2
  by_cases e : A 35 16 = 256
  · rw [if_pos e]
    exact ⟨dsk_ko h (by omega), by rw [koA_16]; omega, fun j h1 h2 => koA_35 A j h1 h2, fun o j h0 h1 h2 h3 => koA_o A j h0 h1 h2 h3⟩
  · rw [if_neg e]
    have := h.2.2.2.1
    exact ⟨h, by omega, fun _ _ _ => rfl, fun _ _ _ _ _ _ => rfl⟩
theorem ve1_35 (A : tS) (s b wh id j : Nat) (h : j ≠ 16) : ve1 A s b wh id 35 j = A 35 j := by
  unfold ve1
  rw [up2_j h]
  split
  · rw [upR_o (by decide), up2_o (by decide), up2_o (by decide), up2_o (by decide)]
  · rw [up2_o (by decide), up2_o (by decide), up2_o (by decide)]
theorem ve1_o (A : tS) (s b wh id : Nat) {o : Nat} (j : Nat) (h0 : o ≠ 35) (h1 : o ≠ 42) (h2 : o ≠ 43) (h3 : o ≠ 44) (h4 : o ≠ 45) : ve1 A s b wh id o j = A o j := by
  unfold ve1
  rw [up2_o h0]
  split
  · rw [upR_o h4, up2_o h3, up2_o h2, up2_o h1]
  · rw [up2_o h3, up2_o h2, up2_o h1]
theorem ve1_42 (A : tS) (s b wh id j : Nat) : ve1 A s b wh id 42 j = if j = s then b else A 42 j := by
  unfold ve1
  rw [up2_o (by decide)]
  split
  · rw [upR_o (by decide), up2_o (by decide), up2_o (by decide)]; simp [up2]
  · rw [up2_o (by decide), up2_o (by decide)]; simp [up2]
theorem ve1_43 (A : tS) (s b wh id j : Nat) : ve1 A s b wh id 43 j = if j = s then wh else A 43 j := by
  unfold ve1
  rw [up2_o (by decide)]
  split
  · rw [upR_o (by decide), up2_o (by decide)]; simp [up2]
  · rw [up2_o (by decide)]; simp [up2]
theorem dsk_ve1 {b wh id : Nat} (h : dsk A K) (h16 : A 35 16 < 256) (hb : b < 34 + A 35 6 + A 35 7) (hw : wh = 3 → 34 + A 35 6 ≤ b) : dsk (ve1 A ((A 35 15 + A 35 16) % 256) b wh id) K := by
  obtain ⟨d1, d2, d3, d4, d5, d6, d7⟩ := h
  have e16 : ve1 A ((A 35 15 + A 35 16) % 256) b wh id 35 16 = A 35 16 + 1 := up2_s _ _ _ _
  unfold dsk slOk
  rw [ve1_35 _ _ _ _ _ 6 (by decide), ve1_35 _ _ _ _ _ 7 (by decide), ve1_35 _ _ _ _ _ 15 (by decide), ve1_35 _ _ _ _ _ 20 (by decide), ve1_35 _ _ _ _ _ 21 (by decide), e16]
  refine ⟨d1, d2, d3, by omega, d5, d6, fun i hi => ?_⟩
  rw [ve1_42, ve1_43]
  by_cases e : i = A 35 16
  · subst e
    rw [if_pos rfl, if_pos rfl]
    exact ⟨hb, hw⟩
  · rw [if_neg (by omega), if_neg (by omega)]
    exact d7 i (by omega)
theorem version18 {b wh id : Nat} (h : RM b0 J σ A N) (hd : dsk A K) (h16 : A 35 16 < 256) (hb : b < 34 + A 35 6 + A 35 7) (hw : wh = 3 → 34 + A 35 6 ≤ b) (hw4 : wh < 4) (hi : id < 2147483648) : wp (FR b0) σ (J_X12_version_18 b0 fu (b0 + 35) (nI b) (nI wh) (nI id) σ) (fun v τ => v = .inl () ∧ RM b0 J τ (ve1 A ((A 35 15 + A 35 16) % 256) b wh id) N) := by
  have L := h.ra.lay
  obtain ⟨d1, d2, d3, d4, d5, d6, d7⟩ := hd
  unfold J_X12_version_18 J_X12_version_95
  simp only [rd_AI, rd_AL, rd_AIr, rd_ALr, rd_IL, rd_LI, rd_IA, rd_LA, rd_LIr, rd_ILr, ckR_sI, ckO_sI, ckR_sL, ckO_sL, ckR_sA, ckO_sA, ckR_sIr, ckO_sIr, ckR_sLr, ckO_sLr, ltb_def]
  generalize hs : (A 35 15 + A 35 16) % 256 = s
  have hs2 : s < 256 := by omega
  have es : nI (A 35 15) + nI (A 35 16) - (nI (A 35 15) + nI (A 35 16)) / 256 * 256 = nI s := by
    rw [nI_add, show (256 : Int32) = nI 256 from rfl, nI_dv (by omega) (by omega) (by omega), pk_mul, nI_md (by omega) (by omega) (by omega), hs]
  rw [ckR_35 L, rf_15 h.ra, rf_16 h.ra, es, osm_p (rfR_35_11 L), ckR_42 L, ckI_n hs2 (by omega), nI_cl (by omega), osm_p (rfR_35_12 L), ckR_43 L, ckI_n hs2 (by omega), osm_p (rfR_35_13 L), ckR_44 L, ckI_n hs2 (by omega)]
  have h1 : RM b0 J (sI σ (b0 + 42) s (nI b)) (up2 A 42 s b) N := RM_fix (x := b) h (o := 42) (j := s) rfl (by decide) rfl (by show _ < 2147483648; omega)
  have h2 : RM b0 J (sI (sI σ (b0 + 42) s (nI b)) (b0 + 43) s (nI wh)) (up2 (up2 A 42 s b) 43 s wh) N := RM_fix (x := wh) h1 (o := 43) (j := s) rfl (by decide) rfl (by show _ < 2147483648; omega)
  have h3 : RM b0 J (sI (sI (sI σ (b0 + 42) s (nI b)) (b0 + 43) s (nI wh)) (b0 + 44) s (nI id)) (up2 (up2 (up2 A 42 s b) 43 s wh) 44 s id) N := RM_fix (x := id) h2 (o := 44) (j := s) rfl (by decide) rfl hi
  have f3 : FR b0 σ (sI (sI (sI σ (b0 + 42) s (nI b)) (b0 + 43) s (nI wh)) (b0 + 44) s (nI id)) := (FR_good b0).2.1 _ _ _ (FR_sI (refO_f 42 (by omega) (by omega))) ((FR_good b0).2.1 _ _ _ (FR_sI (refO_f 43 (by omega) (by omega))) (FR_sI (refO_f 44 (by omega) (by omega))))
  unfold ve1
  show wp (FR b0) σ (if nI wh = nI 3 then _ else _) _
  rw [if_e (by omega) (by omega)]
  generalize hσ : sI (sI (sI σ (b0 + 42) s (nI b)) (b0 + 43) s (nI wh)) (b0 + 44) s (nI id) = σ3 at h3 f3 ⊢
  have L3 := h3.ra.lay
  by_cases e : wh = 3
  · rw [if_pos e, if_pos e, osm_p (rfR_35_22 L), osm_p (rfR_35_14 L), ckR_47 L, ckR_45 L]
    have o3 := hw e
    have z6 : tI σ3 (b0 + 35) 6 = nI (A 35 6) := by rw [rf_6 h3.ra]; rfl
    rw [z6]
    have e1 : (256 : Int32) * nI s = nI (256 * s) := pk_mul 256 s
    have e2 : (256 : Int32) * (nI b - 34 - nI (A 35 6)) = nI (256 * (b - 34 - A 35 6)) := by
      rw [show nI b - 34 = nI (b - 34) from nI_sb (b := 34) (by omega), nI_sb (by omega)]
      exact pk_mul 256 _
    rw [e1, e2]
    have r45 : tI σ3 (b0 + 45) = fun j => sb (A 45 j) := by funext j; rw [rd_45 h3.ra j]; rfl
    have r47 : tI σ3 (b0 + 47) = fun j => sb (A 47 j) := by funext j; rw [rd_47 h3.ra j]; rfl
    rw [r45, r47]
    have ckc : ∀ (k : Option ((Unit ⊕ Unit) × tM)), ckC (nI (256 * (b - 34 - A 35 6))) (nI (256 * s)) 256 512000 65536 k = k := fun k => by
      unfold ckC
      rw [nI_cl (by omega), nI_cl (by omega), show (256 : Int32).toNatClampNeg = 256 from rfl, if_pos ⟨⟨nI_pos (by omega), nI_pos (by omega), by decide⟩, by omega, by omega⟩]
    have ckf : ∀ (k : Option ((Unit ⊕ Unit) × tM)), ckF (fun j => sb (A 47 j)) (nI (256 * (b - 34 - A 35 6))) 256 k = k := fun k => by
      unfold ckF
      rw [if_pos]
      intro j hj
      exact sb_sb _
    rw [ckc, ckf, nI_cl (by omega), nI_cl (by omega), show (256 : Int32).toNatClampNeg = 256 from rfl]
    have h4 : RM b0 J (sIr σ3 (b0 + 45) (va_cpy (fun j => sb (A 47 j)) (fun j => sb (A 45 j)) (256 * (b - 34 - A 35 6)) (256 * s) 256)) (upR (up2 (up2 (up2 A 42 s b) 43 s wh) 44 s id) 45 (cpR (A 47) (A 45) (256 * (b - 34 - A 35 6)) (256 * s))) N := by
      refine RM_row h3 rfl (by decide) (fun j => ?_) (fun j => ?_)
      · unfold cpR
        by_cases q : 256 * s ≤ j ∧ j < 256 * s + 256
        · rw [pk_cpy_in q.1 q.2, if_pos q]; rfl
        · rw [pk_cpy_out (by omega), if_neg q]; rfl
      · unfold cpR
        split
        · exact bd_47 h.ra _
        · exact bd_45 h.ra _
    rw [ckR_35 L, rf_16 h4.ra, nI_1]
    have e16 : upR (up2 (up2 (up2 A 42 s b) 43 s wh) 44 s id) 45 (cpR (A 47) (A 45) (256 * (b - 34 - A 35 6)) (256 * s)) 35 16 = A 35 16 := rfl
    rw [e16]
    exact wp_ret ((FR_good b0).2.1 _ _ _ f3 ((FR_good b0).2.1 _ _ _ (FR_sIr (refO_f 45 (by omega) (by omega))) (FR_sI (refO_f 35 (by omega) (by omega))))) ⟨rfl, RM_fix (x := A 35 16 + 1) h4 rfl (by decide) rfl (by show _ < 2147483648; omega)⟩
  · rw [if_neg e, if_neg e, ckR_35 L, rf_16 h3.ra, nI_1]
    have e16 : up2 (up2 (up2 A 42 s b) 43 s wh) 44 s id 35 16 = A 35 16 := rfl
    rw [e16]
    exact wp_ret ((FR_good b0).2.1 _ _ _ f3 (FR_sI (refO_f 35 (by omega) (by omega)))) ⟨rfl, RM_fix (x := A 35 16 + 1) h3 rfl (by decide) rfl (by show _ < 2147483648; omega)⟩
theorem version_wp {b wh id : Nat} (h : RM b0 J σ A N) (hd : dsk A (K + 1)) (hb : b < 34 + A 35 6 + A 35 7) (hw : wh = 3 → 34 + A 35 6 ≤ b) (hw4 : wh < 4) (hi : id < 2147483648) (hu : 10000 ≤ fu) : wp (FR b0) σ (m_X12_version b0 fu (b0 + 35) (nI b) (nI wh) (nI id) σ) (fun v τ => RX b0 J N v τ (verX A b wh id)) := by
  have L := h.ra.lay
  refine wp_grw (FR_good b0) ?_
  rw [ckR_35 L]
  have e6 := actA_35 A 6 (by decide) (by decide)
  have e7 := actA_35 A 7 (by decide) (by decide)
  unfold verX
  refine wp_clx (FR_good b0) (act_wp h hu (by have := hd.2.2.2.2.1; omega)) (fun v ρ q => ?_) (fun ρ q => ?_)
  · rcases q with ⟨-, q, -⟩ | ⟨q1, -, h1⟩
    · cases q
    · rw [if_neg q1]
      have hd1 := dsk_act hd
      obtain ⟨v1, v2, v3, v4⟩ := dsk_ve2 hd1
      have b16 := hd1.2.2.2.1
      rw [ckR_35 h1.ra.lay, rf_16 h1.ra]
      show wp (FR b0) ρ (if nI (actA A 35 16) = nI 256 then _ else _) _
      rw [if_e (by omega) (by omega)]
      have fin : ∀ ρ', RM b0 J ρ' (ve2 (actA A)) N → wp (FR b0) ρ' (J_X12_version_18 b0 fu (b0 + 35) (nI b) (nI wh) (nI id) ρ') (fun v τ => RX b0 J N v τ (.inl (verA A b wh id))) := fun ρ' h' =>
        version18 h' v1 v2 (by rw [v3 6 (by decide) (by decide), v3 7 (by decide) (by decide), e6, e7]; exact hb) (fun q => by rw [v3 6 (by decide) (by decide), e6]; exact hw q) hw4 hi
      by_cases e : actA A 35 16 = 256
      · rw [if_pos e]
        have e2 : ve2 (actA A) = koA (actA A) := if_pos e
        exact wp_bind (FR_good b0) (keepOldest_wp h1 hd1 (by omega)) fun _ ρ2 h2 => fin ρ2 (by rw [e2]; exact h2)
      · rw [if_neg e]
        have e2 : ve2 (actA A) = actA A := if_neg e
        exact fin ρ (by rw [e2]; exact h1)
  · rcases q with ⟨q1, -, h1⟩ | ⟨-, q, -⟩
    · rw [if_pos q1]
      exact ⟨rfl, h1⟩
    · cases q
theorem flushAct_loop (hu : 10000 ≤ fu) : ∀ m f σ A, RM b0 J σ A N → dsk A K → A 35 16 = m → m < f → wp (FR b0) σ (L_X12_flushAct_4 b0 fu f (b0 + 35) σ) (fun v τ => v = .inl () ∧ RM b0 J τ (up2 (koN m A) 35 21 (koN m A 35 21 + 1)) N) := by
  intro m
  induction m with
  | zero =>
    intro f σ A h hd hm hf
    obtain ⟨f, rfl⟩ : ∃ q, f = q + 1 := ⟨f - 1, by omega⟩
    have L := h.ra.lay
    unfold L_X12_flushAct_4
    rw [ltb_def, ckR_35 L, rf_16 h.ra, hm, if_pos (show nI 0 ≤ 0 by decide), rf_21 h.ra, nI_1]
    exact wp_ret (FR_sI (refO_f 35 (by omega) (by omega))) ⟨rfl, RM_fix (x := koN 0 A 35 21 + 1) h rfl (by decide) rfl (by have := hd.2.2.2.2.2.1; show A 35 21 + 1 < 2147483648; omega)⟩
  | succ m ih =>
    intro f σ A h hd hm hf
    obtain ⟨f, rfl⟩ : ∃ q, f = q + 1 := ⟨f - 1, by omega⟩
    have L := h.ra.lay
    have d4 := hd.2.2.2.1
    unfold L_X12_flushAct_4
    rw [ltb_def, ckR_35 L, rf_16 h.ra, if_neg (show ¬ nI (A 35 16) ≤ 0 from nI_nle (by omega) (by omega))]
    refine wp_bind (FR_good b0) (keepOldest_wp h hd (by omega)) fun _ ρ h1 => ?_
    exact ih f ρ _ h1 (dsk_ko hd (by omega)) (by rw [koA_16]; omega) (by omega)
theorem flushAct_wp (h : RM b0 J σ A N) (hd : dsk A (K + 1)) (hu : 10000 ≤ fu) : wp (FR b0) σ (m_X12_flushAct b0 fu (b0 + 35) σ) (fun v τ => RX b0 J N v τ (fluX A)) := by
  have L := h.ra.lay
  refine wp_grw (FR_good b0) ?_
  rw [ckR_35 L]
  unfold fluX
  refine wp_clx (FR_good b0) (act_wp h hu (by have := hd.2.2.2.2.1; omega)) (fun v ρ q => ?_) (fun ρ q => ?_)
  · rcases q with ⟨-, q, -⟩ | ⟨q1, -, h1⟩
    · cases q
    · rw [if_neg q1]
      have hd1 := dsk_act hd
      exact flushAct_loop hu _ fu ρ _ h1 hd1 rfl (by have := hd1.2.2.2.1; omega)
  · rcases q with ⟨q1, -, h1⟩ | ⟨-, q, -⟩
    · rw [if_pos q1]
      exact ⟨rfl, h1⟩
    · cases q
end DL
