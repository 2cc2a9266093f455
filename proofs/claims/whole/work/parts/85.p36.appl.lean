/-! ===== PURE: the reference applies ===== -/
def irJ (J : tJ) (k b : Nat) : Bool := decide (sr (fun i => J.1 44 (J.1 41 k + J.1 42 k + i) == b) 0 (J.1 43 k) < J.1 43 k)
def grv (J : tJ) (b k m : Nat) : Bool := decide (sr (fun k => irJ J k b) k m < k + m)
def ap1 (J : tJ) (k m : Nat) : Nat → Nat → tS → tS ⊕ tS
  | 0, _, A => .inl A
  | n + 1, i, A => if grv J (J.1 44 (J.1 41 k + i)) (k + 1) m then ap1 J k m n (i + 1) A else bX (verX A (J.1 44 (J.1 41 k + i)) 0 0) (ap1 J k m n (i + 1))
def applyX (A : tS) (J : tJ) : tS ⊕ tS := bX (ap1 J (A 35 30 - A 35 35) (A 35 29 - A 35 30 - 1) (J.1 42 (A 35 30 - A 35 35)) 0 A) (fun B => .inl (up2 B 35 30 (A 35 30 + 1)))
section AP
variable {b0 fu : Nat} {σ τ : tM} {A B U : tS} {N K K' : Nat} {J : tJ}
theorem verA_35 (A : tS) (b wh id j : Nat) (h1 : j ≠ 15) (h2 : j ≠ 16) (h3 : j ≠ 19) (h4 : j ≠ 20) : verA A b wh id 35 j = A 35 j := by
  unfold verA
  rw [ve1_35 _ _ _ _ _ j h2]
  unfold ve2
  split
  · rw [koA_35 _ j h1 h2, actA_35 _ j h3 h4]
  · exact actA_35 _ j h3 h4
theorem verA_o (A : tS) (b wh id : Nat) {o : Nat} (j : Nat) (h0 : o ≠ 35) (h1 : o < 39 ∨ 45 < o) : verA A b wh id o j = A o j := by
  unfold verA
  rw [ve1_o _ _ _ _ _ j h0 (by omega) (by omega) (by omega) (by omega)]
  unfold ve2
  split
  · rw [koA_o _ j h0 (by omega) (by omega) (by omega), actA_o _ j h0]
  · exact actA_o _ j h0
theorem dsk_ver {b wh id : Nat} (h : dsk A (K + 1)) (hb : b < 34 + A 35 6 + A 35 7) (hw : wh = 3 → 34 + A 35 6 ≤ b) : dsk (verA A b wh id) K := by
  obtain ⟨v1, v2, v3, v4⟩ := dsk_ve2 (dsk_act h)
  have e6 := actA_35 A 6 (by decide) (by decide)
  have e7 := actA_35 A 7 (by decide) (by decide)
  exact dsk_ve1 v1 v2 (by rw [v3 6 (by decide) (by decide), v3 7 (by decide) (by decide), e6, e7]; exact hb) (fun q => by rw [v3 6 (by decide) (by decide), e6]; exact hw q)
theorem isRevoked_loop (h : RM b0 J σ A N) {k b : Nat} (hk : k < J.2.1) (hb : b < 2147483648) (hl : J.1 41 k + J.1 42 k + J.1 43 k ≤ J.2.2.1) : ∀ m i f, i + m = J.1 43 k → m < f → L_X12_isRevoked_12 b0 fu f (b0 + 35) (nI b) (nI k) (nI i) σ = some (nI (if sr (fun i => J.1 44 (J.1 41 k + J.1 42 k + i) == b) i m < J.1 43 k then 1 else 0), σ) := by
  have L := h.ra.lay
  have nb := (h.nr).2.2
  obtain ⟨a3, n3, p1, p2, p3, p4, p5, p6, p7⟩ := h.dy (f := 43) (k := k) (by omega) (by omega) hk
  obtain ⟨a1, n1, q1, q2, q3, q4, q5, q6, q7⟩ := h.dy (f := 41) (k := k) (by omega) (by omega) hk
  obtain ⟨a2, n2, r1, r2, r3, r4, r5, r6, r7⟩ := h.dy (f := 42) (k := k) (by omega) (by omega) hk
  intro m
  induction m with
  | zero =>
    intro i f hi hf
    obtain ⟨f, rfl⟩ : ∃ q, f = q + 1 := ⟨f - 1, by omega⟩
    unfold L_X12_isRevoked_12
    rw [ltb_def, ckR_35 L, osm_p p1, ckR_p p2 p3, ckI_n p4 p5, nI_cl (by omega), p6, if_l (by omega) (by omega), if_pos (by omega), if_neg (by unfold sr; omega)]
    rfl
  | succ m ih =>
    intro i f hi hf
    obtain ⟨f, rfl⟩ : ∃ q, f = q + 1 := ⟨f - 1, by omega⟩
    obtain ⟨a4, n4, s1, s2, s3, s4, s5, s6, s7⟩ := h.dl (k := J.1 41 k + J.1 42 k + i) (by omega)
    unfold L_X12_isRevoked_12
    rw [ltb_def, ckR_35 L, osm_p p1, ckR_p p2 p3, ckI_n p4 p5, nI_cl (by omega), p6, if_l (by omega) (by omega), if_neg (show ¬ J.1 43 k ≤ i by omega), osm_p s1, osm_p q1, ckR_p q2 q3, ckI_n q4 q5, osm_p r1, ckR_p r2 r3, ckI_n r4 r5, ckR_p s2 s3, q6, r6, nI_add, nI_add, ckI_n s4 s5, nI_cl (by omega), s6, if_e s7 hb, ltb_def, ofi, ih (i + 1) f (by omega) (by omega)]
    by_cases e : J.1 44 (J.1 41 k + J.1 42 k + i) = b
    · rw [if_pos e]
      have : sr (fun i => J.1 44 (J.1 41 k + J.1 42 k + i) == b) i (m + 1) = i := by simp [sr, e]
      rw [this, if_pos (by omega)]
      rfl
    · rw [if_neg e]
      simp [sr, e]
theorem isRevoked_eq (h : RM b0 J σ A N) {k b : Nat} (hk : k < J.2.1) (hb : b < 2147483648) (hl : J.1 41 k + J.1 42 k + J.1 43 k ≤ J.2.2.1) (hx : A 35 35 + k < 1000000) (hu : 600000 ≤ fu) : m_X12_isRevoked b0 fu (b0 + 35) (nI (A 35 35 + k + 1)) (nI b) σ = some (nI (b2n (irJ J k b)), σ) := by
  have L := h.ra.lay
  have nb := (h.nr).2.2
  have e1 : nI (A 35 35 + k + 1) - nI (A 35 35) - 1 = nI k := by
    rw [nI_sb (by omega), show nI (A 35 35 + k + 1 - A 35 35) - 1 = nI (A 35 35 + k + 1 - A 35 35 - 1) from nI_sb (b := 1) (by omega)]
    congr 1; omega
  unfold m_X12_isRevoked
  rw [ckR_35 L, rf_35 h.ra, e1, ltb_def]
  show grw σ (L_X12_isRevoked_12 b0 fu fu (b0 + 35) (nI b) (nI k) (nI 0) σ) = _
  rw [isRevoked_loop h hk hb hl (J.1 43 k) 0 fu (by omega) (by omega), grw_same]
  simp [irJ, b2n]
theorem apply51 (h : RM b0 J σ A N) {b t k i : Nat} {rc} (hb : b < 2147483648) (hj : ∀ i, i < J.2.1 → J.1 41 i + J.1 42 i + J.1 43 i ≤ J.2.2.1) (hx : A 35 29 < 1000000) (hr : A 35 29 - A 35 35 ≤ J.2.1) (hu : 600000 ≤ fu) : ∀ m q f, A 35 35 + q + m = A 35 29 → m + 1 < f → L_X12_applyOne_51 b0 fu rc f (b0 + 35) (nI t) (nI k) (nI i) (nI b) (nI 0) (nI (A 35 35 + q + 1)) σ = J_X12_applyOne_81 b0 fu rc (b0 + 35) (nI t) (nI k) (nI i) (nI b) (nI (b2n (grv J b q m))) σ := by
  have L := h.ra.lay
  intro m
  induction m with
  | zero =>
    intro q f hq hf
    obtain ⟨f, rfl⟩ : ∃ q, f = q + 1 := ⟨f - 1, by omega⟩
    unfold L_X12_applyOne_51
    rw [ltb_def, ckR_35 L, rf_29 h.ra, if_t (by omega) (by omega), if_pos (show A 35 29 < A 35 35 + q + 1 by omega)]
    have : grv J b q 0 = false := by simp [grv, sr]
    rw [this]
    rfl
  | succ m ih =>
    intro q f hq hf
    obtain ⟨f, rfl⟩ : ∃ q, f = q + 1 := ⟨f - 1, by omega⟩
    unfold L_X12_applyOne_51
    rw [ltb_def, ckR_35 L, rf_29 h.ra, if_t (by omega) (by omega), if_neg (show ¬ A 35 29 < A 35 35 + q + 1 by omega), if_pos (show nI 0 = 0 from rfl), isRevoked_eq h (by omega) hb (hj q (by omega)) (by omega) hu, cll_some, ltb_def, ofi, show A 35 35 + q + 1 + 1 = A 35 35 + (q + 1) + 1 by omega]
    cases e : irJ J q b with
    | false =>
      show L_X12_applyOne_51 b0 fu rc f (b0 + 35) (nI t) (nI k) (nI i) (nI b) (nI 0) (nI (A 35 35 + (q + 1) + 1)) σ = _
      rw [ih (q + 1) f (by omega) (by omega)]
      have : grv J b q (m + 1) = grv J b (q + 1) m := by
        unfold grv
        have e2 : sr (fun k => irJ J k b) q (m + 1) = sr (fun k => irJ J k b) (q + 1) m := by simp [sr, e]
        rw [e2, show q + (m + 1) = q + 1 + m by omega]
      rw [this]
    | true =>
      have : grv J b q (m + 1) = true := by
        have e2 : sr (fun k => irJ J k b) q (m + 1) = q := by simp [sr, e]
        simp [grv, e2]
      rw [this]
      obtain ⟨f, rfl⟩ : ∃ q, f = q + 1 := ⟨f - 1, by omega⟩
      unfold L_X12_applyOne_51
      rw [ltb_def, ckR_35 L, if_neg (show ¬ nI (b2n true) = 0 by decide)]
      split <;> rfl
theorem apply18 {k t : Nat} (hj : ∀ i, i < J.2.1 → J.1 41 i + J.1 42 i + J.1 43 i ≤ J.2.2.1) (hk : k < J.2.1) (hu : 600000 ≤ fu) : ∀ n i f σ A, RM b0 J σ A N → dsk A (K + n) → i + n = J.1 42 k → n < f → (∀ i, i < J.1 42 k → J.1 44 (J.1 41 k + i) < 34 + A 35 6 + A 35 7) → t = A 35 35 + k + 1 → t ≤ A 35 29 → A 35 29 < 1000000 → A 35 29 - A 35 35 ≤ J.2.1 → wp (FR b0) σ (L_X12_applyOne_18 b0 fu f (b0 + 35) (nI t) (nI k) (nI i) σ) (fun v τ => RX b0 J N v τ (bX (ap1 J k (A 35 29 - t) n i A) (fun B => .inl (up2 B 35 30 t)))) := by
  intro n
  induction n with
  | zero =>
    intro i f σ A h hd hi hf hbl ht h29 hx hr
    obtain ⟨f, rfl⟩ : ∃ q, f = q + 1 := ⟨f - 1, by omega⟩
    have L := h.ra.lay
    obtain ⟨a2, n2, r1, r2, r3, r4, r5, r6, r7⟩ := h.dy (f := 42) (k := k) (by omega) (by omega) hk
    unfold L_X12_applyOne_18
    rw [ltb_def, ckR_35 L, osm_p r1, ckR_p r2 r3, ckI_n r4 r5, nI_cl (by omega), r6, if_l (by omega) (by omega), if_pos (show J.1 42 k ≤ i by omega)]
    exact wp_ret (FR_sI (refO_f 35 (by omega) (by omega))) ⟨rfl, RM_fix h rfl (by decide) rfl (by show _ < 2147483648; omega)⟩
  | succ n ih =>
    intro i f σ A h hd hi hf hbl ht h29 hx hr
    obtain ⟨f, rfl⟩ : ∃ q, f = q + 1 := ⟨f - 1, by omega⟩
    have L := h.ra.lay
    have nb := (h.nr).2.2
    have hjk := hj k hk
    obtain ⟨a2, n2, r1, r2, r3, r4, r5, r6, r7⟩ := h.dy (f := 42) (k := k) (by omega) (by omega) hk
    obtain ⟨a1, n1, q1, q2, q3, q4, q5, q6, q7⟩ := h.dy (f := 41) (k := k) (by omega) (by omega) hk
    obtain ⟨a4, n4, s1, s2, s3, s4, s5, s6, s7⟩ := h.dl (k := J.1 41 k + i) (by omega)
    have hb := hbl i (by omega)
    have d67 := hd
    unfold L_X12_applyOne_18
    rw [ltb_def, ckR_35 L, osm_p r1, ckR_p r2 r3, ckI_n r4 r5, nI_cl (by omega), r6, if_l (by omega) (by omega), if_neg (show ¬ J.1 42 k ≤ i by omega), osm_p s1, osm_p q1, ckR_p q2 q3, ckI_n q4 q5, ckR_p s2 s3, q6, nI_add, ckI_n s4 s5, nI_cl (by omega), s6, ltb_def, ltb_def, nI_1]
    have e51 := apply51 (fu := fu) (rc := L_X12_applyOne_18 b0 fu f) (b := J.1 44 (J.1 41 k + i)) (t := t) (k := k) (i := i) h s7 hj hx hr hu (A 35 29 - t) (k + 1) fu (by omega) (by omega)
    rw [show A 35 35 + (k + 1) + 1 = t + 1 by omega] at e51
    show wp (FR b0) σ (L_X12_applyOne_51 b0 fu (L_X12_applyOne_18 b0 fu f) fu (b0 + 35) (nI t) (nI k) (nI i) (nI (J.1 44 (J.1 41 k + i))) (nI 0) (nI (t + 1)) σ) _
    rw [e51]
    unfold J_X12_applyOne_81 J_X12_applyOne_94 ap1
    generalize hbb : J.1 44 (J.1 41 k + i) = b at hb
    cases eg : grv J b (k + 1) (A 35 29 - t) with
    | true =>
      rw [if_neg (show ¬ nI (b2n true) = 0 by decide), if_pos rfl, ltb_def, ofi]
      exact ih (i + 1) f σ A h (by rw [show K + (n + 1) = (K + 1) + n by omega] at hd; obtain ⟨x1, x2, x3, x4, x5, x6, x7⟩ := hd; exact ⟨x1, x2, x3, x4, by omega, by omega, x7⟩) (by omega) (by omega) hbl ht h29 hx hr
    | false =>
      rw [if_pos (show nI (b2n false) = 0 from rfl), if_neg (by decide), ckR_35 L]
      have hv := version_wp (b := b) (wh := 0) (id := 0) (fu := fu) h (by rw [show K + (n + 1) = (K + n) + 1 by omega] at hd; exact hd) hb (by omega) (by omega) (by omega) (by omega)
      have assoc : bX (bX (verX A b 0 0) (ap1 J k (A 35 29 - t) n (i + 1))) (fun B => .inl (up2 B 35 30 t)) = bX (verX A b 0 0) (fun A' => bX (ap1 J k (A 35 29 - t) n (i + 1) A') (fun B => .inl (up2 B 35 30 t))) := by cases verX A b 0 0 <;> rfl
      rw [assoc]
      refine wpX hv fun A' ρ e1 h1 => ?_
      have eA : A' = verA A b 0 0 := by
        unfold verX at e1
        split at e1
        · cases e1
        · cases e1; rfl
      have v35 : ∀ j, j ≠ 15 → j ≠ 16 → j ≠ 19 → j ≠ 20 → A' 35 j = A 35 j := fun j w1 w2 w3 w4 => by rw [eA]; exact verA_35 A b 0 0 j w1 w2 w3 w4
      have e29 : A' 35 29 = A 35 29 := v35 29 (by decide) (by decide) (by decide) (by decide)
      have e35 : A' 35 35 = A 35 35 := v35 35 (by decide) (by decide) (by decide) (by decide)
      rw [ltb_def, ofi, ← e29]
      refine ih (i + 1) f ρ A' h1 ?_ (by omega) (by omega) (fun q hq => ?_) (by rw [e35]; exact ht) (by rw [e29]; exact h29) (by rw [e29]; exact hx) (by rw [e29, e35]; exact hr)
      · rw [eA]
        refine dsk_ver ?_ hb (by omega)
        rw [show K + (n + 1) = (K + n) + 1 by omega] at hd
        exact hd
      · rw [v35 6 (by decide) (by decide) (by decide) (by decide), v35 7 (by decide) (by decide) (by decide) (by decide)]
        exact hbl q hq
theorem applyOne_wp (h : RM b0 J σ A N) (hj : ∀ i, i < J.2.1 → J.1 41 i + J.1 42 i + J.1 43 i ≤ J.2.2.1) (h1 : A 35 35 ≤ A 35 30) (h2 : A 35 30 < A 35 29) (hx : A 35 29 < 1000000) (hr : A 35 29 - A 35 35 ≤ J.2.1) (hd : dsk A (K + J.1 42 (A 35 30 - A 35 35))) (hb : ∀ i, i < J.1 42 (A 35 30 - A 35 35) → J.1 44 (J.1 41 (A 35 30 - A 35 35) + i) < 34 + A 35 6 + A 35 7) (hu : 600000 ≤ fu) : wp (FR b0) σ (m_X12_applyOne b0 fu (b0 + 35) σ) (fun v τ => RX b0 J N v τ (applyX A J)) := by
  have L := h.ra.lay
  have nb := (h.nr).2.2
  refine wp_grw (FR_good b0) ?_
  have e1 : nI (A 35 30 + 1) - nI (A 35 35) - 1 = nI (A 35 30 - A 35 35) := by
    rw [nI_sb (by omega), show nI (A 35 30 + 1 - A 35 35) - 1 = nI (A 35 30 + 1 - A 35 35 - 1) from nI_sb (b := 1) (by omega)]
    congr 1; omega
  rw [ckR_35 L, rf_30 h.ra, rf_35 h.ra, ltb_def, ltb_def, nI_1, e1]
  have hjk := hj (A 35 30 - A 35 35) (by omega)
  have := apply18 (fu := fu) (K := K) (k := A 35 30 - A 35 35) (t := A 35 30 + 1) hj (by omega) hu (J.1 42 (A 35 30 - A 35 35)) 0 fu σ A h hd (by omega) (by omega) hb (by omega) (by omega) hx hr
  unfold applyX
  rw [show A 35 29 - A 35 30 - 1 = A 35 29 - (A 35 30 + 1) by omega]
  exact this
end AP
