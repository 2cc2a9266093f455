/-! ===== PURE: the reference's shuffle, recover ===== -/
def seN : Nat → Nat → tS → tS
  | 0, _, A => A
  | m + 1, k, A => seN m (k + 1) (up2 A 68 (A 42 ((A 35 15 + k) % 256)) (A 68 (A 42 ((A 35 15 + k) % 256)) + 1))
/-- what a seed means for a block that has v versions -/
def shV (seed : Int64) (b v : Nat) : Nat := seed.toBitVec.toNat / 2 ^ (b % 54) % 1024 % (v + 1)
def shL (seed : Int64) : Nat → Nat → Nat → tS → Nat × tS
  | 0, _, d, A => (d, A)
  | m + 1, b, d, A => if A 68 b = 0 then shL seed m (b + 1) d A else shL seed m (b + 1) (d + 1) (up2 A 46 b (shV seed b (A 68 b)))
def sh1 (A : tS) : tS := seN (A 35 16) 0 (fl 68 0 0 6200 A)
def shY (seed : Int64) (A : tS) : Nat × tS := shL seed (34 + A 35 6 + A 35 7) 0 0 (sh1 A)
def shA (seed : Int64) (A : tS) : Int × tS := if A 35 18 ≠ 0 then (-9, up2 A 35 0 0) else (((shY seed (up2 A 35 0 0)).1 : Int), (shY seed (up2 A 35 0 0)).2)
section SH
variable {b0 fu : Nat} {σ τ : tM} {A B U : tS} {N N' K K' : Nat} {J : tJ}
theorem sh_v {seed : Int64} {b v : Nat} (hb : b < 2147483648) (hv : v < 1000000) : (((((seed).toUInt64 >>> (((nI b) - (nI b) / (54) * (54)).toInt64.toUInt64 &&& Int64.toUInt64 63)).toInt64) &&& (1023)) - ((((seed).toUInt64 >>> (((nI b) - (nI b) / (54) * (54)).toInt64.toUInt64 &&& Int64.toUInt64 63)).toInt64) &&& (1023)) / (((nI v) + (1)).toInt64) * (((nI v) + (1)).toInt64)).toInt32 = nI (shV seed b v) := by
  obtain ⟨n, hn, rfl⟩ := wb_of seed
  have e1 : nI b - nI b / (54 : Int32) * (54 : Int32) = nI (b % 54) := pk_rem (d := 54) hb (by omega) (by omega)
  have e2 : b % 54 < 64 := by omega
  have e3 : n / 2 ^ (b % 54) < 2 ^ 64 := Nat.lt_of_le_of_lt (Nat.div_le_self _ _) hn
  have e4 : lN (n / 2 ^ (b % 54)) &&& (1023 : Int64) = lN (n / 2 ^ (b % 54) % 1024) := wb_mask (k := 10) e3 (by omega)
  have e5 : (nI v + (1 : Int32)).toInt64 = lN (v + 1) := by rw [show nI v + (1 : Int32) = nI (v + 1) from nI_add v 1, nI_l (by omega)]
  have e6 : n / 2 ^ (b % 54) % 1024 < 1024 := Nat.mod_lt _ (by omega)
  rw [e1, wb_shr hn e2, e4, e5, pk_lRem (by omega) (by omega) (by omega), lN_i]
  unfold shV
  rw [wb_tn hn]
theorem ckL_n {β : Type} {v : Nat} {k : Option β} (h : v < 1000000) : ckL ((nI v + (1 : Int32)).toInt64) k = k := by
  have e5 : (nI v + (1 : Int32)).toInt64 = lN (v + 1) := by rw [show nI v + (1 : Int32) = nI (v + 1) from nI_add v 1, nI_l (by omega)]
  rw [e5]
  unfold ckL
  rw [if_neg]
  intro e
  have := (pk_lEQ (a := v + 1) (b := 0) (by omega) (by omega)).mp e
  omega
theorem sh84 {seed : Int64} (hl : 34 + A 35 6 + A 35 7 ≤ 6130) : ∀ m b d f σ A', RM b0 J σ A' N → A' 35 = A 35 → (∀ j, A' 68 j < 1000000) → b + m = 34 + A 35 6 + A 35 7 → d ≤ b → m < f → wp (FR b0) σ (L_X12_shuffle_84 b0 fu f (b0 + 35) seed (nI d) (nI b) σ) (fun v τ => v = nI (shL seed m b d A').1 ∧ RM b0 J τ (shL seed m b d A').2 N) := by
  intro m
  induction m with
  | zero =>
    intro b d f σ A' h h35 h68 hb hd hf
    obtain ⟨f, rfl⟩ : ∃ q, f = q + 1 := ⟨f - 1, by omega⟩
    unfold L_X12_shuffle_84
    rw [ltb_def, ckR_35 h.ra.lay, blocks_eq h.ra, cll_some, h35, if_l (by omega) (by omega), if_pos (by omega)]
    exact wp_ret ((FR_good b0).1 _) ⟨rfl, h⟩
  | succ m ih =>
    intro b d f σ A' h h35 h68 hb hd hf
    obtain ⟨f, rfl⟩ : ∃ q, f = q + 1 := ⟨f - 1, by omega⟩
    have L := h.ra.lay
    have b68 := h68 b
    unfold L_X12_shuffle_84 J_X12_shuffle_139 shL
    rw [ltb_def, ckR_35 L, blocks_eq h.ra, cll_some, h35, if_l (by omega) (by omega), if_neg (by omega), ckR_35 L, osm_p (rfR_35_54 L), ckR_68 L, ckI_n (by omega) (by omega), nI_cl (by omega), rd_68 h.ra]
    show wp (FR b0) σ (if nI (A' 68 b) = nI 0 then _ else _) _
    rw [if_e (by omega) (by omega), ltb_def, ofi]
    by_cases c : A' 68 b = 0
    · rw [if_pos c, if_pos c]
      exact ih (b + 1) d f σ A' h h35 h68 (by omega) (by omega) (by omega)
    · rw [if_neg c, if_neg c, osm_p (rfR_35_17 L), osm_p (rfR_35_54 L), ckR_68 L, ckI_n (by omega) (by omega), rd_68 h.ra, ckL_n b68, ckR_46 L, ckI_n (by omega) (by omega), ltb_def, ltb_def, ltb_def, ofi, sh_v (by omega) b68]
      have vb : shV seed b (A' 68 b) < 2147483648 := by
        have : shV seed b (A' 68 b) ≤ 1023 := by
          unfold shV
          have q1 := Nat.mod_le (seed.toBitVec.toNat / 2 ^ (b % 54) % 1024) (A' 68 b + 1)
          have q2 : seed.toBitVec.toNat / 2 ^ (b % 54) % 1024 < 1024 := Nat.mod_lt _ (by omega)
          omega
        omega
      refine wp_from (FR_good b0) (FR_sI (v := nI (shV seed b (A' 68 b))) (j := b) (refO_f 46 (by omega) (by omega))) ?_
      exact ih (b + 1) (d + 1) f _ _ (RM_fix (o := 46) (j := b) (x := shV seed b (A' 68 b)) h rfl (by decide) rfl vb) (by rw [up2_rown (by decide)]; exact h35) (fun j => by rw [up2_o (by decide)]; exact h68 j) (by omega) (by omega) (by omega)
theorem sh41 {seed : Int64} {P : Int32 → tM → Prop} (h5 : A 35 15 < 256) (h6 : A 35 16 ≤ 256) (hl : 34 + A 35 6 + A 35 7 ≤ 6130) (hs : ∀ i, i < A 35 16 → A 42 ((A 35 15 + i) % 256) < 34 + A 35 6 + A 35 7) : ∀ m k f σ A', RM b0 J σ A' N → A' 35 = A 35 → A' 42 = A 42 → (∀ j, A' 68 j ≤ k) → k + m = A 35 16 → m < f →
    (∀ τ, RM b0 J τ (seN m k A') N → (seN m k A') 35 = A 35 → (∀ j, (seN m k A') 68 j < 1000000) → wp (FR b0) τ (L_X12_shuffle_84 b0 fu fu (b0 + 35) seed 0 0 τ) P) → wp (FR b0) σ (L_X12_shuffle_41 b0 fu f (b0 + 35) seed (nI k) σ) P := by
  intro m
  induction m with
  | zero =>
    intro k f σ A' h h35 h42 h68 hk hf hq
    obtain ⟨f, rfl⟩ : ∃ q, f = q + 1 := ⟨f - 1, by omega⟩
    unfold L_X12_shuffle_41
    rw [ltb_def, ckR_35 h.ra.lay, rf_16 h.ra, h35, if_l (by omega) (by omega), if_pos (by omega)]
    exact hq σ h h35 (fun j => by have := h68 j; show A' 68 j < _; omega)
  | succ m ih =>
    intro k f σ A' h h35 h42 h68 hk hf hq
    obtain ⟨f, rfl⟩ : ∃ q, f = q + 1 := ⟨f - 1, by omega⟩
    have L := h.ra.lay
    have hb := hs k (by omega)
    have e1 : nI (A 35 15) + nI k - (nI (A 35 15) + nI k) / (256 : Int32) * (256 : Int32) = nI ((A 35 15 + k) % 256) := by
      rw [nI_add]
      exact pk_rem (d := 256) (by omega) (by omega) (by omega)
    have m1 : (A 35 15 + k) % 256 < 256 := Nat.mod_lt _ (by omega)
    have b68 := h68 (A 42 ((A 35 15 + k) % 256))
    unfold L_X12_shuffle_41
    rw [ltb_def, ckR_35 L, rf_16 h.ra, rf_15 h.ra, h35, if_l (by omega) (by omega), if_neg (by omega), osm_p (rfR_35_54 L), osm_p (rfR_35_11 L), ckR_42 L, e1, ckI_n m1 (by omega), nI_cl (by omega), rd_42 h.ra, h42, ckR_68 L, ckI_n (by omega) (by omega), ckI_n (by omega) (by omega), nI_cl (by omega), rd_68 h.ra, ltb_def, ltb_def, ofi, show nI (A' 68 (A 42 ((A 35 15 + k) % 256))) + (1 : Int32) = nI (A' 68 (A 42 ((A 35 15 + k) % 256)) + 1) from nI_add _ 1]
    have es : seN (m + 1) k A' = seN m (k + 1) (up2 A' 68 (A 42 ((A 35 15 + k) % 256)) (A' 68 (A 42 ((A 35 15 + k) % 256)) + 1)) := by
      rw [← h42, ← h35]
      rfl
    refine wp_from (FR_good b0) (FR_sI (v := nI (A' 68 (A 42 ((A 35 15 + k) % 256)) + 1)) (j := A 42 ((A 35 15 + k) % 256)) (refO_f 68 (by omega) (by omega))) ?_
    refine ih (k + 1) f _ (up2 A' 68 (A 42 ((A 35 15 + k) % 256)) (A' 68 (A 42 ((A 35 15 + k) % 256)) + 1)) (RM_fix (o := 68) h rfl (by decide) rfl (by show _ < 2147483648; omega)) (by rw [up2_rown (by decide)]; exact h35) (by rw [up2_rown (by decide)]; exact h42) (fun j => ?_) (by omega) (by omega) (by rw [← es]; exact hq)
    by_cases c : j = A 42 ((A 35 15 + k) % 256)
    · rw [c, up2_s]
      omega
    · rw [up2_j c]
      have := h68 j
      omega
theorem sh17 {seed : Int64} {P : Int32 → tM → Prop} : ∀ m k f σ A, RM b0 J σ A N → k + m = 6200 → m < f →
    (∀ τ, RM b0 J τ (fl 68 0 k m A) N → wp (FR b0) τ (L_X12_shuffle_41 b0 fu fu (b0 + 35) seed 0 τ) P) → wp (FR b0) σ (L_X12_shuffle_17 b0 fu f (b0 + 35) seed (nI k) σ) P := by
  intro m
  induction m with
  | zero =>
    intro k f σ A h hk hf hq
    obtain ⟨f, rfl⟩ : ∃ q, f = q + 1 := ⟨f - 1, by omega⟩
    have L := h.ra.lay
    unfold L_X12_shuffle_17
    rw [ltb_def, ckR_35 L, osm_p (rfR_35_54 L), ckR_68 L, if_l (by omega) (by omega), if_pos (by omega)]
    exact hq σ h
  | succ m ih =>
    intro k f σ A h hk hf hq
    obtain ⟨f, rfl⟩ : ∃ q, f = q + 1 := ⟨f - 1, by omega⟩
    have L := h.ra.lay
    unfold L_X12_shuffle_17
    rw [ltb_def, ckR_35 L, osm_p (rfR_35_54 L), ckR_68 L, if_l (by omega) (by omega), if_neg (by omega), osm_p (rfR_35_54 L), ckR_68 L, ckI_n (by omega) (by omega), nI_cl (by omega), ltb_def, ofi]
    refine wp_from (FR_good b0) (FR_sI (v := 0) (j := k) (refO_f 68 (by omega) (by omega))) ?_
    exact ih (k + 1) f _ (up2 A 68 k 0) (RM_fix (o := 68) (x := 0) h rfl (by decide) rfl (by decide)) (by omega) (by omega) hq
theorem fl_row {o v : Nat} {p : Nat} (h : p ≠ o) : ∀ n lo (A : tS), fl o v lo n A p = A p := fun n lo A => by
  funext q
  rw [fl_at, if_neg (fun r => h r.1)]
theorem shuffle_wp {seed : Int64} (h : RM b0 J σ A N) (hd : A 35 18 = 0 → dsk A 0 ∧ ∀ b, 6200 ≤ b → A 68 b = 0) (hu : 10000 ≤ fu) : wp (FR b0) σ (m_X12_shuffle b0 fu (b0 + 35) seed σ) (fun v τ => v = iz (shA seed A).1 ∧ RM b0 J τ (shA seed A).2 N) := by
  have L := h.ra.lay
  have b18 := bd_35 h.ra 18
  have h1 : RM b0 J (sI σ (b0 + 35) 0 0) (up2 A 35 0 0) N := RM_fix (x := 0) h rfl (by decide) rfl (by decide)
  have fr : FR b0 σ (sI σ (b0 + 35) 0 0) := FR_sI (refO_f 35 (by omega) (by omega))
  refine wp_grw (FR_good b0) ?_
  rw [ckR_35 L, rf_18 h1.ra, up2_j (show (18 : Nat) ≠ 0 by decide)]
  show wp (FR b0) σ (if nI (A 35 18) = nI 0 then _ else _) _
  rw [if_e b18 (by omega)]
  unfold shA
  by_cases c : A 35 18 = 0
  · rw [if_pos c, if_neg (fun r => r c)]
    obtain ⟨hd, hz⟩ := hd c
    obtain ⟨d1, d2, d3, d4, d5, d6, d7⟩ := hd
    have e : ∀ j, j ≠ 0 → up2 A 35 0 0 35 j = A 35 j := fun j hj => up2_j hj
    have e42 : up2 A 35 0 0 42 = A 42 := up2_rown (by decide)
    have g35 : fl 68 0 0 6200 (up2 A 35 0 0) 35 = up2 A 35 0 0 35 := fl_row (by decide) _ _ _
    refine wp_from (FR_good b0) fr (sh17 6200 0 fu _ _ h1 (by omega) (by omega) (fun τ q => ?_))
    refine sh41 (A := up2 A 35 0 0) (by rw [e 15 (by decide)]; exact d3) (by rw [e 16 (by decide)]; exact d4) (by rw [e 6 (by decide), e 7 (by decide)]; omega) (fun i hi => ?_) (A 35 16) 0 fu τ _ q g35 (fl_row (by decide) _ _ _) (fun j => ?_) (by rw [e 16 (by decide)]; omega) (by omega) (fun τ2 q2 g1 g2 => ?_)
    · rw [e 16 (by decide)] at hi
      rw [e 15 (by decide), e 6 (by decide), e 7 (by decide), e42]
      exact (d7 i hi).1
    · rw [fl_at]
      by_cases cj : j < 6200
      · rw [if_pos ⟨rfl, Nat.zero_le _, by omega⟩]
        exact Nat.le_refl _
      · rw [if_neg (fun r => by omega), up2_o (by decide), hz j (by omega)]
        exact Nat.le_refl _
    · have eS : sh1 (up2 A 35 0 0) = seN (A 35 16) 0 (fl 68 0 0 6200 (up2 A 35 0 0)) := by unfold sh1; rw [e 16 (by decide)]
      have := sh84 (fu := fu) (seed := seed) (A := up2 A 35 0 0) (by rw [e 6 (by decide), e 7 (by decide)]; omega) (34 + A 35 6 + A 35 7) 0 0 fu τ2 _ q2 g1 g2 (by rw [e 6 (by decide), e 7 (by decide)]; omega) (by omega) (by omega)
      refine wp_mono this ?_
      intro v ρ _ ⟨x1, x2⟩
      unfold shY
      rw [eS, e 6 (by decide), e 7 (by decide), iz_n]
      exact ⟨x1, x2⟩
  · rw [if_neg c, if_pos c]
    exact wp_ret fr ⟨rfl, h1⟩
/-- recover: what it answers and leaves -/
def rvY (A : tS) (J : tJ) (s : Nat → Nat) : Int × tP :=
  if A 35 18 ≠ 0 then (-9, (up2 A 35 0 0, J)) else
  match rvX (rv1 (up2 A 35 0 0)) J (rvF (rv1 (up2 A 35 0 0))) (rv1 (up2 A 35 0 0) 35 35 + rvT (rv1 (up2 A 35 0 0)) J (rvF (rv1 (up2 A 35 0 0)) - rv1 (up2 A 35 0 0) 35 35)) with
  | .inl D => (((rv1 (up2 A 35 0 0) 35 35 + rvT (rv1 (up2 A 35 0 0)) J (rvF (rv1 (up2 A 35 0 0)) - rv1 (up2 A 35 0 0) 35 35) - rvF (rv1 (up2 A 35 0 0)) : Nat) : Int), (udA D (rv1 (up2 A 35 0 0) 35 35 + rvT (rv1 (up2 A 35 0 0)) J (rvF (rv1 (up2 A 35 0 0)) - rv1 (up2 A 35 0 0) 35 35)) (udE D J (rv1 (up2 A 35 0 0) 35 35 + rvT (rv1 (up2 A 35 0 0)) J (rvF (rv1 (up2 A 35 0 0)) - rv1 (up2 A 35 0 0) 35 35))) s, udJ J s))
  | .inr D => (0, (up2 D 35 0 1, J))
theorem recover_wp {s : Nat → Nat} (h : RM b0 J σ A N) (ho : A 35 18 = 0 → rcOk (up2 A 35 0 0) J s) (hN : 4000 ≤ N) (hN2 : N + 130 < 65536) (hu : 1200000 ≤ fu) : wp (FR b0) σ (m_X12_recover b0 fu (b0 + 35) σ) (fun v τ => v = iz (rvY A J s).1 ∧ RM b0 (rvY A J s).2.2 τ (rvY A J s).2.1 (N + 128)) := by
  have L := h.ra.lay
  have b18 := bd_35 h.ra 18
  have h1 : RM b0 J (sI σ (b0 + 35) 0 0) (up2 A 35 0 0) N := RM_fix (x := 0) h rfl (by decide) rfl (by decide)
  have fr : FR b0 σ (sI σ (b0 + 35) 0 0) := FR_sI (refO_f 35 (by omega) (by omega))
  refine wp_grw (FR_good b0) ?_
  rw [ckR_35 L, rf_18 h1.ra, up2_j (show (18 : Nat) ≠ 0 by decide)]
  show wp (FR b0) σ (if nI (A 35 18) = nI 0 then _ else _) _
  rw [if_e b18 (by omega)]
  unfold rvY
  by_cases c : A 35 18 = 0
  · rw [if_pos c, if_neg (fun r => r c)]
    have hr := recovery_wp (fu := fu) h1 (ho c) hN hN2 hu
    generalize up2 A 35 0 0 = A at *
    generalize rv1 A = B at *
    generalize B 35 35 + rvT B J (rvF B - B 35 35) = to at *
    refine wp_from (FR_good b0) fr ?_
    cases eX : rvX B J (rvF B) to with
    | inl D =>
      rw [eX] at hr
      dsimp only
      refine wp_cly (FR_good b0) hr ?_ ?_
      · intro v ρ q
        have e1 : v = nI (to - rvF B) := by have := q.1; cases this; rfl
        subst e1
        exact wp_ret ((FR_good b0).1 _) ⟨(iz_n _).symm, q.2⟩
      · intro ρ q
        exact absurd q.1 (fun e => by cases e)
    | inr D =>
      rw [eX] at hr
      dsimp only
      refine wp_cly (FR_good b0) hr ?_ ?_
      · intro v ρ q
        exact absurd q.1 (fun e => by cases e)
      · intro ρ q
        rw [ckR_35 q.2.ra.lay]
        refine wp_bind (FR_good b0) (off_wp (fu := fu) q.2) ?_
        intro v ρ2 ⟨e1, q3⟩
        subst e1
        exact wp_ret ((FR_good b0).1 _) ⟨rfl, RM_le q3 (by omega)⟩
  · rw [if_neg c, if_pos c]
    exact wp_ret fr ⟨rfl, RM_le h1 (by omega)⟩
end SH
