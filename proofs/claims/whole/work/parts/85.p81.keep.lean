/-! ===== PURE: the class's Disk: keep, keepOldest ===== -/
section DL
variable {b0 fu : Nat} {σ τ : tM} {A B : tS} {C : tS} {D D' D'' : tD} {bi sp : Nat → Nat} {pl : Nat → Nat × Nat}
theorem CM.p (h : CM b0 σ C D) {o j : Nat} (q : isP o j) : tA σ (b0 + o) j = dP D o j := by
  obtain ⟨-, -, -, pl, h5⟩ := h
  exact (h5.1 o j q).1
theorem CM.row (h : CM b0 σ C D) {o j a : Nat} (q : isP o j) (e : dP D o j = some a) : isRow b0 σ a (dW D a) := by
  obtain ⟨-, -, -, pl, h5⟩ := h
  exact ((h5.1 o j q).2 a e).1
theorem ckO_row {β : Type} {a : Nat} {w : Nat → Nat} {k : Option β} (h : isRow b0 σ a w) : ckO b0 σ a 4 k = k := ckO_p h.1 ⟨by have := h.2.2.2.1.1; omega, by have := h.2.2.2.1.2.1; omega⟩
theorem omt_some {β : Type} {x : Nat} {f : Nat → Option β} {g : Option β} : omt (some x) f g = f x := rfl
theorem omt_none {β : Type} {f : Nat → Option β} {g : Option β} : omt none f g = g := rfl
theorem keep_mem (h : CM b0 σ C D) {s b : Nat} (hs : s < 256) (hb : b < 6130) (h6 : C 6 s = b) : m_X0_keep b0 fu (b0 + 1) (nI s) σ = some ((), if C 9 s = 0 then sI σ (b0 + 2) b (nI (C 7 s)) else sA (sA (sI σ (b0 + 2) b (nI (C 7 s))) (b0 + 3) b (dP D 8 s)) (b0 + 8) s (dP D 3 b)) := by
  have L := h.lay
  have b9 := cb_9 h.ca s
  have p3 := h.p (o := 3) (j := b) (Or.inl ⟨rfl, hb⟩)
  have p8 := h.p (o := 8) (j := s) (Or.inr (Or.inl ⟨rfl, hs⟩))
  have r3 := fun a => h.row (o := 3) (j := b) (a := a) (Or.inl ⟨rfl, hb⟩)
  have r8 := fun a => h.row (o := 8) (j := s) (a := a) (Or.inr (Or.inl ⟨rfl, hs⟩))
  unfold m_X0_keep J_X0_keep_54
  simp only [rd_AI, rd_AL, rd_AIr, rd_ALr, rd_IL, rd_LI, rd_IA, rd_LA, rd_LIr, rd_ILr, ckR_sI, ckO_sI, ckR_sL, ckO_sL, ckR_sA, ckO_sA, ckR_sIr, ckO_sIr, ckR_sLr, ckO_sLr, ltb_def]
  rw [ckC_1 L, osm_p (rfC_1_4 L), ckC_6 L, ckI_n hs (by omega), nI_cl (by omega), cd_6 h.ca, h6, osm_p (rfC_1_0 L), osm_p (rfC_1_5 L), ckC_7 L, ckI_n hs (by omega), ckC_2 L, ckI_n hb (by omega), osm_p (rfC_1_7 L), ckC_9 L, ckI_n hs (by omega), cd_7 h.ca, nI_cl (by omega), rd_IIa (show b0 + 9 ≠ b0 + 2 by omega), cd_9 h.ca]
  show grw σ (if nI (C 9 s) = nI 0 then _ else _) = _
  rw [if_e (by omega) (by omega)]
  by_cases e : C 9 s = 0
  · rw [if_pos e, if_pos e]
    exact grw_p rfl (Nat.le_refl _) (Nat.le_refl _)
  · rw [if_neg e, if_neg e, osm_p (rfC_1_1 L), ckC_3 L, ckI_n hb (by omega), p3]
    have a16 : ∀ (ρ : tM) (v : Option Nat), tA ρ (b0 + 1) 6 = some (b0 + 8) → tA (sA ρ (b0 + 3) b v) (b0 + 1) 6 = some (b0 + 8) := fun ρ v q => by rw [rd_AAa (by omega)]; exact q
    have q16 : tA (sI σ (b0 + 2) b (nI (C 7 s))) (b0 + 1) 6 = some (b0 + 8) := rfC_1_6 L
    cases e3 : dP D 3 b with
    | none =>
      rw [omt_none, osm_p (rfC_1_1 L), osm_p (rfC_1_6 L), ckC_8 L, ckI_n hs (by omega), p8]
      cases e8 : dP D 8 s with
      | none =>
        rw [omt_none, ckC_3 L, ckI_n hb (by omega), osm_p (a16 _ _ q16), ckC_8 L, ckI_n hs (by omega)]
        exact grw_p rfl (Nat.le_refl _) (Nat.le_refl _)
      | some a =>
        rw [omt_some, ckC_3 L, ckI_n hb (by omega), ckO_row (r8 a e8), osm_p (a16 _ _ q16), ckC_8 L, ckI_n hs (by omega)]
        exact grw_p rfl (Nat.le_refl _) (Nat.le_refl _)
    | some a3 =>
      rw [omt_some, osm_p (rfC_1_1 L), osm_p (rfC_1_6 L), ckC_8 L, ckI_n hs (by omega), p8]
      cases e8 : dP D 8 s with
      | none =>
        rw [omt_none, ckC_3 L, ckI_n hb (by omega), osm_p (a16 _ _ q16), ckC_8 L, ckI_n hs (by omega), ckO_row (r3 a3 e3)]
        exact grw_p rfl (Nat.le_refl _) (Nat.le_refl _)
      | some a =>
        rw [omt_some, ckC_3 L, ckI_n hb (by omega), ckO_row (r8 a e8), osm_p (a16 _ _ q16), ckC_8 L, ckI_n hs (by omega), ckO_row (r3 a3 e3)]
        exact grw_p rfl (Nat.le_refl _) (Nat.le_refl _)
theorem psi_sA {o j : Nat} {v : Option Nat} (ho : o < 33) : psi b0 (sA σ (b0 + o) j v) = psi b0 σ := by
  have e : tA (sA σ (b0 + o) j v) (b0 + 35) = tA σ (b0 + 35) := rd_A1 σ (b0 + o) j v (by omega)
  unfold psi lenD
  rw [e]
  rfl
theorem CM_swap {b s : Nat} (hb : b < 6130) (hs : s < 256) (h : CM b0 σ C D) : CM b0 (sA (sA σ (b0 + 3) b (dP D 8 s)) (b0 + 8) s (dP D 3 b)) C (swP D b s) := by
  obtain ⟨h1, h2, h3, pl, h5⟩ := h
  refine ⟨?_, fun a q => h2 a ((ref_sA (by omega) a).mp ((ref_sA (by omega) a).mp q)), ?_, DY_swap hb hs h5⟩
  · refine CA_same h1 (layC_of h1.lay (Nat.le_refl _) (fun _ _ => rfl) ?_) (fun _ _ => rfl) rfl
    have e0 : ∀ o, o ≠ 3 → o ≠ 8 → tA (sA (sA σ (b0 + 3) b (dP D 8 s)) (b0 + 8) s (dP D 3 b)) (b0 + o) = tA σ (b0 + o) := fun o q1 q2 => by rw [rd_A1 _ _ _ _ (by omega), rd_A1 _ _ _ _ (by omega)]
    simp only [e0 0 (by omega) (by omega), e0 1 (by omega) (by omega), e0 10 (by omega) (by omega), e0 18 (by omega) (by omega), e0 20 (by omega) (by omega), e0 23 (by omega) (by omega), e0 24 (by omega) (by omega), e0 26 (by omega) (by omega), e0 28 (by omega) (by omega), e0 30 (by omega) (by omega), and_self]
  · rw [psi_sA (by omega), psi_sA (by omega)]
    exact h3
theorem kp_o {s o : Nat} (h1 : o ≠ 39) (h2 : o ≠ 40) (h3 : o ≠ 41) : kpA A s o = A o := by
  funext j
  exact kpA_o A s j h1 h2 h3
theorem kp_39 {s b : Nat} : kpA A s 39 b = if b = A 42 s then A 43 s else A 39 b := by
  unfold kpA
  by_cases c : b = A 42 s
  · rw [if_pos c, c]
    split
    · unfold upR
      rw [if_neg (by decide), up2_o (by decide), up2_s]
    · rw [up2_o (by decide), up2_s]
  · rw [if_neg c]
    split
    · unfold upR
      rw [if_neg (by decide), up2_o (by decide), up2_j c]
    · rw [up2_o (by decide), up2_j c]
theorem kp_40 {s b : Nat} : kpA A s 40 b = if b = A 42 s then A 44 s else A 40 b := by
  unfold kpA
  by_cases c : b = A 42 s
  · rw [if_pos c, c]
    split
    · unfold upR
      rw [if_neg (by decide), up2_s]
    · rw [up2_s]
  · rw [if_neg c]
    split
    · unfold upR
      rw [if_neg (by decide), up2_j c, up2_o (by decide)]
    · rw [up2_j c, up2_o (by decide)]
theorem kp_41 {s j : Nat} : kpA A s 41 j = if A 43 s = 3 ∧ 256 * (A 42 s - 34 - A 35 6) ≤ j ∧ j < 256 * (A 42 s - 34 - A 35 6) + 256 then A 45 (256 * s + (j - 256 * (A 42 s - 34 - A 35 6))) else A 41 j := by
  unfold kpA
  by_cases c : A 43 s = 3
  · rw [if_pos c]
    unfold upR cpR
    rw [if_pos rfl]
    by_cases q : 256 * (A 42 s - 34 - A 35 6) ≤ j ∧ j < 256 * (A 42 s - 34 - A 35 6) + 256
    · rw [if_pos q, if_pos ⟨c, q⟩]
    · rw [if_neg q, if_neg (fun r => q r.2)]
  · rw [if_neg c, if_neg (fun r => c r.1), up2_o (by decide), up2_o (by decide)]
theorem EP_sw {b s : Nat} (hb : b < 6130) (hs : s < 256) : EP D (swP D b s) 0 0 := by
  have := kpn_swap (D := D) hb hs
  have e1 : dE (swP D b s) = dE D := rfl
  have e2 : dO (swP D b s) = dO D := rfl
  unfold EP
  rw [this, e1, e2]
  exact ⟨(Nat.add_zero _).symm, (Nat.add_zero _).symm⟩
/-- what keep leaves -/
theorem keep_c (h : CM b0 σ C D) {s : Nat} (hs : s < 256) (hb : A 42 s < 6130) (ho : A 43 s = 3 → 34 + A 35 6 ≤ A 42 s) (hS : SL bi sp C D A s) (hK : ∀ b, b < 6130 → KB bi sp C D A b) : wp (FC b0) σ (m_X0_keep b0 fu (b0 + 1) (nI s) σ) (fun _ τ => ∃ D', CM b0 τ (up2 C 2 (A 42 s) (C 7 s)) D' ∧ JP D D' ∧ EP D D' 0 0 ∧ (∀ b, b < 6130 → KB bi sp (up2 C 2 (A 42 s) (C 7 s)) D' (kpA A s) b) ∧ ∀ s', s' < 256 → s' ≠ s → SL bi sp C D A s' → SL bi sp (up2 C 2 (A 42 s) (C 7 s)) D' (kpA A s) s') := by
  obtain ⟨s1, s2, s3, s4⟩ := hS
  have b7 := cb_7 h.ca s
  have h1 : CM b0 (sI σ (b0 + 2) (A 42 s) (nI (C 7 s))) (up2 C 2 (A 42 s) (C 7 s)) D := CM_fix (o := 2) h rfl rfl b7
  rw [keep_mem h hs hb s1]
  have e35 : kpA A s 35 6 = A 35 6 := kpA_35 _ _ _
  by_cases e : A 43 s = 3
  · have e9 : ¬ C 9 s = 0 := by rw [s3, if_pos e]; decide
    obtain ⟨a8, w1, w2⟩ := s4 e
    have o1 := ho e
    rw [if_neg e9]
    have h2 := CM_swap (s := s) hb hs h1
    refine wp_ret (FC_2 (FC_sI h.rf (by omega)) (FC_2 (FC_sA h1.rf (by omega)) (FC_sA (fun a q => h1.rf a ((ref_sA (by omega) a).mp q)) (by omega)))) ⟨swP D (A 42 s) s, h2, ⟨⟨?_, rfl, rfl, rfl, rfl, rfl, rfl⟩, fun _ _ _ _ => rfl, fun _ _ _ _ _ => rfl⟩, (EP_sw hb hs), fun b hb2 => ?_, fun s' hs' ne q => ?_⟩
    · funext j
      show (if (21 = 3 ∧ j = A 42 s) then dP D 8 s else if (21 = 8 ∧ j = s) then dP D 3 (A 42 s) else dP D 21 j) = dP D 21 j
      rw [if_neg (by omega), if_neg (by omega)]
    · unfold KB
      rw [kp_39, kp_40, e35]
      by_cases c : b = A 42 s
      · subst c
        rw [if_pos rfl, if_pos rfl, up2_s]
        refine ⟨s2, fun _ => ⟨o1, a8, ?_, fun j hj => ?_⟩⟩
        · show (if (3 = 3 ∧ A 42 s = A 42 s) then dP D 8 s else _) = _
          rw [if_pos ⟨rfl, rfl⟩, w1]
        · rw [kp_41, if_pos ⟨e, by omega, by omega⟩]
          have := w2 j hj
          rw [show 256 * s + (256 * (A 42 s - 34 - A 35 6) + j - 256 * (A 42 s - 34 - A 35 6)) = 256 * s + j by omega]
          exact this
      · rw [if_neg c, if_neg c, up2_j c]
        obtain ⟨k1, k2⟩ := hK b hb2
        refine ⟨k1, fun q3 => ?_⟩
        obtain ⟨q4, a, q5, q6⟩ := k2 q3
        refine ⟨q4, a, ?_, fun j hj => ?_⟩
        · show (if (3 = 3 ∧ b = A 42 s) then dP D 8 s else if (3 = 8 ∧ b = s) then _ else dP D 3 b) = _
          rw [if_neg (fun r => c r.2), if_neg (by omega)]
          exact q5
        · rw [kp_41, if_neg (by omega)]
          exact q6 j hj
    · obtain ⟨t1, t2, t3, t4⟩ := q
      unfold SL
      rw [kp_o (by decide) (by decide) (by decide), kp_o (by decide) (by decide) (by decide), kp_o (by decide) (by decide) (by decide), kp_o (by decide) (by decide) (by decide), up2_o (by decide), up2_o (by decide), up2_o (by decide)]
      refine ⟨t1, t2, t3, fun q3 => ?_⟩
      obtain ⟨a, q5, q6⟩ := t4 q3
      refine ⟨a, ?_, q6⟩
      show (if (8 = 3 ∧ s' = A 42 s) then dP D 8 s else if (8 = 8 ∧ s' = s) then dP D 3 (A 42 s) else dP D 8 s') = some a
      rw [if_neg (by omega), if_neg (fun r => ne r.2)]
      exact q5
  · have e9 : C 9 s = 0 := by rw [s3, if_neg e]
    rw [if_pos e9]
    refine wp_ret (FC_sI h.rf (by omega)) ⟨D, h1, JP_r D, EP_r D, fun b hb2 => ?_, fun s' hs' ne q => ?_⟩
    · unfold KB
      rw [kp_39, kp_40, e35]
      by_cases c : b = A 42 s
      · subst c
        rw [if_pos rfl, if_pos rfl, up2_s]
        exact ⟨s2, fun q => absurd q e⟩
      · rw [if_neg c, if_neg c, up2_j c]
        obtain ⟨k1, k2⟩ := hK b hb2
        refine ⟨k1, fun q3 => ?_⟩
        obtain ⟨q4, a, q5, q6⟩ := k2 q3
        refine ⟨q4, a, q5, fun j hj => ?_⟩
        rw [kp_41, if_neg (fun r => e r.1)]
        exact q6 j hj
    · unfold SL
      rw [kp_o (by decide) (by decide) (by decide), kp_o (by decide) (by decide) (by decide), kp_o (by decide) (by decide) (by decide), kp_o (by decide) (by decide) (by decide), up2_o (by decide), up2_o (by decide), up2_o (by decide)]
      exact q
end DL
