/-! ===== PURE: the class's Disk: flushCache, countOf, setChoice, chooseAll ===== -/
section DQ
variable {b0 fu : Nat} {σ τ : tM} {A B : tS} {C C' : tS} {D D' D'' : tD} {bi sp : Nat → Nat} {K : Nat}
theorem fls9 (hu : 3000 ≤ fu) : ∀ m f σ C D A, CM b0 σ C D → DR bi sp C D A → dsk A K → A 35 16 = m → m < f → wp (FC b0) σ (L_X0_flushCache_9 b0 fu f (b0 + 1) (nI m) σ) (fun v τ => DX b0 bi sp C D 256 v τ (.inl (up2 (koN m A) 35 21 (koN m A 35 21 + 1)))) := by
  intro m
  induction m with
  | zero =>
    intro f σ C D A h hR hd hm hf
    obtain ⟨f, rfl⟩ : ∃ q, f = q + 1 := ⟨f - 1, by omega⟩
    have d6 := hd.2.2.2.2.2.1
    unfold L_X0_flushCache_9
    rw [ltb_def, if_pos (show nI 0 ≤ 0 by decide), ckC_1 h.lay, cf_1_12 h.ca, hR.1.2.2.2.2.1, show nI (A 35 21) + (1 : Int32) = nI (A 35 21 + 1) from nI_add _ 1]
    have k1 := CM_fix (o := 1) (j := 12) (x := A 35 21 + 1) (v := nI (A 35 21 + 1)) h rfl rfl (by show _ < 2147483648; omega)
    refine wp_ret (FC_sI h.rf (by omega)) ⟨rfl, _, D, k1, ?_, cO_up (by omega) (cO_r C), JP_r D, EP_r D⟩
    have hh := hR.1
    refine DR_cong (B := up2 A 35 21 (A 35 21 + 1)) hR (fun p hp => up2_rown hp) ⟨?_, ?_, ?_, ?_, ?_, ?_, ?_⟩ (fun o ho => up2_rown ho) (up2_j (by decide)) (up2_j (by decide)) (up2_j (by decide))
    · rw [up2_j (by decide), up2_j (by decide), up2_j (by decide)]; exact hh.1
    · rw [up2_j (by decide), up2_j (by decide)]; exact hh.2.1
    · rw [up2_j (by decide), up2_j (by decide)]; exact hh.2.2.1
    · rw [up2_j (by decide), up2_j (by decide)]; exact hh.2.2.2.1
    · rw [up2_s, up2_s]
    · rw [up2_j (by decide), up2_j (by decide)]; exact hh.2.2.2.2.2.1
    · rw [up2_j (by decide), up2_j (by decide)]; exact hh.2.2.2.2.2.2
  | succ m ih =>
    intro f σ C D A h hR hd hm hf
    obtain ⟨f, rfl⟩ : ∃ q, f = q + 1 := ⟨f - 1, by omega⟩
    have d4 := hd.2.2.2.1
    unfold L_X0_flushCache_9
    rw [ltb_def, show (0 : Int32) = nI 0 from rfl, if_l (by omega) (by omega), if_neg (by omega), ckC_1 h.lay]
    refine wp_bind (FC_good b0) (keepOldest_c (fu := fu) h hR hd (by omega)) ?_
    rintro _ ρ ⟨C1, D1, q1, q2, q3, q4, q5⟩
    rw [ltb_def, show nI (m + 1) + Int32.ofInt (-1) = nI m from pk_m1 m]
    refine wp_mono (ih f ρ C1 D1 (koA A) q1 q2 (dsk_ko hd (by omega)) (by rw [koA_16]; omega) (by omega)) ?_
    intro v ρ2 _ q
    exact DX_pre q3 q4 q5 q
theorem flushCache_c (h : CM b0 σ C D) (hR : DR bi sp C D A) (hd : dsk A (K + 1)) (hz : ∀ b, A 46 b = 0) (hu : 3000 ≤ fu) : wp (FC b0) σ (m_X0_flushCache b0 fu (b0 + 1) σ) (fun v τ => DX b0 bi sp C D 256 v τ (fluX A)) := by
  refine wp_grw (FC_good b0) ?_
  rw [ckC_1 h.lay]
  have ha := act_c (fu := fu) h hR hd hz hu
  unfold fluX
  by_cases c : A 35 19 = 1
  · rw [if_pos c] at ha ⊢
    refine wp_clx (FC_good b0) ha ?_ ?_
    · intro v ρ q
      exact absurd q.1 (fun e => by cases e)
    · intro ρ q
      exact q
  · rw [if_neg c] at ha ⊢
    refine wp_clx (FC_good b0) ha ?_ ?_
    · rintro v ρ ⟨_, C1, D1, q1, q2, q3, q4, q5⟩
      have hd1 := dsk_act hd
      have e10 : C1 1 10 = actA A 35 16 := q2.1.2.2.1
      have hle := hd1.2.2.2.1
      rw [ckC_1 q1.lay, ltb_def, cf_1_10 q1.ca, e10]
      refine wp_mono (fls9 hu (actA A 35 16) fu ρ C1 D1 (actA A) q1 q2 hd1 rfl (by omega)) ?_
      intro v ρ2 _ q
      exact DX_pre q3 q4 q5 q
    · intro ρ q
      exact absurd q.1 (fun e => by cases e)
theorem countOf_c (h : CM b0 σ C D) (hR : DR bi sp C D A) (hd : dsk A K) (p : Int32) : m_X0_countOf b0 fu (b0 + 1) p σ = some (iz (if p < 0 ∨ 34 + A 35 6 + A 35 7 ≤ p.toNatClampNeg then -1 else ((vsN A p.toNatClampNeg : Nat) : Int)), σ) := by
  have L := h.lay
  have d1 := hd.1
  have d2 := hd.2.1
  unfold m_X0_countOf J_X0_countOf_12 J_X0_countOf_22
  by_cases c : p < 0
  · rw [if_pos c, if_pos (Or.inl c)]
    exact grw_same
  · rw [if_neg c]
    obtain ⟨m, hm, rfl⟩ := nI_of c
    rw [ckC_1 L, cf_1_8 h.ca, hR.1.1, if_t hm (by omega), nI_cl hm]
    by_cases c2 : m < 34 + A 35 6 + A 35 7
    · rw [if_pos c2, if_neg (fun r => by rcases r with r | r; exact c r; omega), osm_p (rfC_1_2 L), ckC_4 L, ckI_n (by omega) (by omega), cd_4 h.ca, hR.2.2.2.2.1 m (by omega), iz_n]
      exact grw_same
    · rw [if_neg c2, if_pos (Or.inr (by omega))]
      exact grw_same
theorem setChoice_c (h : CM b0 σ C D) (hR : DR bi sp C D A) (hd : dsk A K) {b v : Nat} (hb : b < 34 + A 35 6 + A 35 7) (hv : v < 2147483648) : wp (FC b0) σ (m_X0_setChoice b0 fu (b0 + 1) (nI b) (nI v) σ) (fun _ τ => ∃ C', CM b0 τ C' D ∧ DR bi sp C' D (up2 A 46 b v) ∧ cO C C') := by
  have L := h.lay
  have d1 := hd.1
  have d2 := hd.2.1
  have hR0 := hR
  obtain ⟨hh, rs, rx, rk, rc, rch⟩ := hR
  refine wp_grw (FC_good b0) ?_
  unfold J_X0_setChoice_19
  rw [if_neg (nI_pos (by omega)), ckC_1 L, cf_1_8 h.ca, hh.1, if_l (by omega) (by omega), if_neg (by omega), osm_p (rfC_1_3 L), ckC_5 L, ckI_n (by omega) (by omega), nI_cl (by omega)]
  have k1 := CM_fix (o := 5) (j := b) (x := v) (v := nI v) h rfl rfl hv
  refine wp_ret (FC_sI h.rf (by omega)) ⟨_, k1, ?_, cO_up (by omega) (cO_r C)⟩
  have e35 : up2 A 46 b v 35 = A 35 := up2_rown (by decide)
  have cx : ∀ p, p ≠ 5 → up2 C 5 b v p = C p := fun p hp => up2_rown hp
  have ax : ∀ p, p ≠ 46 → up2 A 46 b v p = A p := fun p hp => up2_rown hp
  refine ⟨by rw [cx 1 (by decide), e35]; exact hh, fun i hi hx => ?_, fun q => by omega, fun b' hb2 => KB_cong (rk b' hb2) (cx 2 (by decide)) (ax 39 (by decide)) (ax 40 (by decide)) (ax 41 (by decide)) (by rw [e35]), fun b' hb2 => ?_, fun b' hb2 => ?_⟩
  · rw [e35] at hi hx ⊢
    exact SL_cong (rs i hi hx) (cx 6 (by decide)) (cx 7 (by decide)) (cx 9 (by decide)) (ax 42 (by decide)) (ax 43 (by decide)) (ax 44 (by decide)) (ax 45 (by decide))
  · unfold vsN
    rw [cx 4 (by decide), e35, ax 42 (by decide)]
    exact rc b' hb2
  · by_cases c : b' = b
    · rw [c, up2_s, up2_s]
    · rw [up2_j c, up2_j c]
      exact rch b' hb2
theorem seN_o {o : Nat} (h : o ≠ 68) : ∀ m k (A : tS), seN m k A o = A o
  | 0, _, _ => rfl
  | m + 1, k, A => by
    unfold seN
    rw [seN_o h m, up2_rown h]
theorem seN_68 : ∀ m k (A : tS) (b : Nat), seN m k A 68 b = A 68 b + cn (fun i => A 42 ((A 35 15 + i) % 256) == b) k m
  | 0, _, _, _ => rfl
  | m + 1, k, A, b => by
    unfold seN
    rw [seN_68 m, up2_rown (show (35 : Nat) ≠ 68 by decide), up2_rown (show (42 : Nat) ≠ 68 by decide)]
    show _ = A 68 b + ((if (A 42 ((A 35 15 + k) % 256) == b) = true then 1 else 0) + cn (fun i => A 42 ((A 35 15 + i) % 256) == b) (k + 1) m)
    by_cases c : A 42 ((A 35 15 + k) % 256) = b
    · rw [c, up2_s, if_pos (by simp)]
      omega
    · rw [up2_j (fun e => c e.symm), if_neg (by simp [c])]
      omega
theorem cho5 {seed : Int64} : ∀ m b d f σ C A, CM b0 σ C D → DR bi sp C D A → (34 + A 35 6 + A 35 7 ≤ 6130) → (∀ b, b < 6130 → A 68 b = vsN A b) → A 35 16 ≤ 256 → b + m = 34 + A 35 6 + A 35 7 → d ≤ b → m < f → wp (FC b0) σ (L_X0_chooseAll_5 b0 fu f (b0 + 1) seed (nI d) (nI b) σ) (fun v τ => v = nI (shL seed m b d A).1 ∧ ∃ C', CM b0 τ C' D ∧ DR bi sp C' D (shL seed m b d A).2 ∧ cO C C') := by
  intro m
  induction m with
  | zero =>
    intro b d f σ C A h hR hl hs h16 hb hd hf
    obtain ⟨f, rfl⟩ : ∃ q, f = q + 1 := ⟨f - 1, by omega⟩
    unfold L_X0_chooseAll_5
    rw [ltb_def, ckC_1 h.lay, cf_1_8 h.ca, hR.1.1, if_l (by omega) (by omega), if_pos (by omega)]
    exact wp_ret ((FC_good b0).1 _) ⟨rfl, C, h, hR, cO_r C⟩
  | succ m ih =>
    intro b d f σ C A h hR hl hs h16 hb hd hf
    obtain ⟨f, rfl⟩ : ∃ q, f = q + 1 := ⟨f - 1, by omega⟩
    have L := h.lay
    have e4 : C 4 b = A 68 b := by rw [hs b (by omega)]; exact hR.2.2.2.2.1 b (by omega)
    have v2 : A 68 b ≤ 256 := by rw [hs b (by omega)]; exact Nat.le_trans (cn_le _ _ _) h16
    unfold L_X0_chooseAll_5 J_X0_chooseAll_56 shL
    rw [ltb_def, ckC_1 L, cf_1_8 h.ca, hR.1.1, if_l (by omega) (by omega), if_neg (by omega), osm_p (rfC_1_2 L), ckC_4 L, ckI_n (by omega) (by omega), nI_cl (by omega), cd_4 h.ca, e4, ltb_def, ltb_def, ofi]
    show wp (FC b0) σ (if nI (A 68 b) ≤ nI 0 then _ else _) _
    rw [if_l (by omega) (by omega)]
    by_cases c : A 68 b = 0
    · rw [if_pos (by omega), if_pos c]
      exact ih (b + 1) d f σ C A h hR hl hs h16 (by omega) (by omega) (by omega)
    · rw [if_neg (by omega), if_neg c, osm_p (rfC_1_3 L), ckL_n (by omega), ckC_5 L, ckI_n (by omega) (by omega), ltb_def, ltb_def, ltb_def, ofi, sh_v (by omega) (by omega)]
      have vb : shV seed b (A 68 b) < 2147483648 := by
        have : shV seed b (A 68 b) ≤ 1023 := by
          unfold shV
          have q1 := Nat.mod_le (seed.toBitVec.toNat / 2 ^ (b % 54) % 1024) (A 68 b + 1)
          have q2 : seed.toBitVec.toNat / 2 ^ (b % 54) % 1024 < 1024 := Nat.mod_lt _ (by omega)
          omega
        omega
      have k1 := CM_fix (o := 5) (j := b) (x := shV seed b (A 68 b)) (v := nI (shV seed b (A 68 b))) h rfl rfl vb
      generalize shV seed b (A 68 b) = v at *
      obtain ⟨hh, rs, rx, rk, rc, rch⟩ := hR
      have e35 : up2 A 46 b v 35 = A 35 := up2_rown (by decide)
      have cx : ∀ p, p ≠ 5 → up2 C 5 b v p = C p := fun p hp => up2_rown hp
      have ax : ∀ p, p ≠ 46 → up2 A 46 b v p = A p := fun p hp => up2_rown hp
      have hR2 : DR bi sp (up2 C 5 b v) D (up2 A 46 b v) := by
        refine ⟨by rw [cx 1 (by decide), e35]; exact hh, fun i hi hx => ?_, fun q => by omega, fun b' hb2 => KB_cong (rk b' hb2) (cx 2 (by decide)) (ax 39 (by decide)) (ax 40 (by decide)) (ax 41 (by decide)) (by rw [e35]), fun b' hb2 => ?_, fun b' hb2 => ?_⟩
        · rw [e35] at hi hx ⊢
          exact SL_cong (rs i hi hx) (cx 6 (by decide)) (cx 7 (by decide)) (cx 9 (by decide)) (ax 42 (by decide)) (ax 43 (by decide)) (ax 44 (by decide)) (ax 45 (by decide))
        · unfold vsN
          rw [cx 4 (by decide), e35, ax 42 (by decide)]
          exact rc b' hb2
        · by_cases c : b' = b
          · rw [c, up2_s, up2_s]
          · rw [up2_j c, up2_j c]
            exact rch b' hb2
      have := ih (b + 1) (d + 1) f _ _ (up2 A 46 b v) k1 hR2 (by rw [e35]; exact hl) (fun b' hb2 => by unfold vsN; rw [ax 68 (by decide), e35, ax 42 (by decide)]; exact hs b' hb2) (by rw [e35]; exact h16) (by rw [e35]; omega) (by omega) (by omega)
      refine wp_from (FC_good b0) (FC_sI (o := 5) (j := b) (v := nI v) h.rf (by omega)) (wp_mono this ?_)
      rintro v2 ρ _ ⟨q1, C2, q2, q3, q4⟩
      exact ⟨q1, C2, q2, q3, cO_t (cO_up (by omega) (cO_r C)) q4⟩
theorem chooseAll_c {seed : Int64} (h : CM b0 σ C D) (hR : DR bi sp C D A) (hd : dsk A K) (hu : 10000 ≤ fu) : wp (FC b0) σ (m_X0_chooseAll b0 fu (b0 + 1) seed σ) (fun v τ => v = nI (shY seed A).1 ∧ ∃ C', CM b0 τ C' D ∧ DR bi sp C' D (shY seed A).2 ∧ cO C C') := by
  obtain ⟨d1, d2, d3, d4, d5, d6, d7⟩ := hd
  have so : ∀ o, o ≠ 68 → sh1 A o = A o := fun o ho => by unfold sh1; rw [seN_o ho, fl_row ho]
  have e35 := so 35 (by decide)
  have hv : vsN (sh1 A) = vsN A := by funext b; unfold vsN; rw [e35, so 42 (by decide)]
  have hR2 : DR bi sp C D (sh1 A) := by
    obtain ⟨hh, rs, rx, rk, rc, rch⟩ := hR
    refine ⟨by rw [e35]; exact hh, fun i hi hx => ?_, fun q => by omega, fun b' hb2 => KB_cong (rk b' hb2) rfl (so 39 (by decide)) (so 40 (by decide)) (so 41 (by decide)) (by rw [e35]), fun b' hb2 => by rw [hv]; exact rc b' hb2, fun b' hb2 => by rw [so 46 (by decide)]; exact rch b' hb2⟩
    rw [e35] at hi hx ⊢
    exact SL_cong (rs i hi hx) rfl rfl rfl (so 42 (by decide)) (so 43 (by decide)) (so 44 (by decide)) (so 45 (by decide))
  have := cho5 (fu := fu) (seed := seed) (34 + A 35 6 + A 35 7) 0 0 fu σ C (sh1 A) h hR2 (by rw [e35]; omega) (fun b hb => ?_) (by rw [e35]; exact d4) (by rw [e35]; omega) (by omega) (by omega)
  · exact wp_grw (FC_good b0) this
  · rw [hv]
    unfold sh1 vsN
    rw [seN_68, fl_at, if_pos ⟨rfl, Nat.zero_le _, by omega⟩, Nat.zero_add, fl_row (by decide), fl_row (by decide)]
end DQ
