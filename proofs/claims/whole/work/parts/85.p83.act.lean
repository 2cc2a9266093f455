/-! ===== PURE: the class's Disk: losePower, act, put ===== -/
/-- something more is made -/
def adE (D : tD) (n m : Nat) : tD := (D.1, D.2.1, D.2.2.1, D.2.2.2.1, D.2.2.2.2.1, D.2.2.2.2.2.1, D.2.2.2.2.2.2.1, D.2.2.2.2.2.2.2.1, dE D + n, dO D + m)
/-- how a step of the disk ends -/
def DX (b0 : Nat) (bi sp : Nat → Nat) (C : tS) (D : tD) (x : Nat) (v : Unit ⊕ Unit) (τ : tM) (X : tS ⊕ tS) : Prop := match X with
  | .inl A => v = .inl () ∧ ∃ C' D', CM b0 τ C' D' ∧ DRx bi sp C' D' A x ∧ cO C C' ∧ JP D D' ∧ EP D D' 0 0
  | .inr A => v = .inr () ∧ ∃ C' D', CM b0 τ C' D' ∧ DR bi sp C' D' A ∧ cO C C' ∧ JP D D' ∧ EP D D' 6 1
section DN
variable {b0 fu : Nat} {σ τ : tM} {A B : tS} {C C' : tS} {D D' D'' : tD} {bi sp : Nat → Nat} {K : Nat}
theorem SL_cong {X : tS} {s : Nat} (h : SL bi sp C D A s) (h6 : X 6 = C 6) (h7 : X 7 = C 7) (h9 : X 9 = C 9) (a2 : B 42 = A 42) (a3 : B 43 = A 43) (a4 : B 44 = A 44) (a5 : B 45 = A 45) : SL bi sp X D B s := by
  unfold SL at h ⊢
  rw [h6, h7, h9, a2, a3, a4, a5]
  exact h
theorem KB_cong {X : tS} {b : Nat} (h : KB bi sp C D A b) (h2 : X 2 = C 2) (a1 : B 39 = A 39) (a2 : B 40 = A 40) (a3 : B 41 = A 41) (a4 : B 35 6 = A 35 6) : KB bi sp X D B b := by
  unfold KB at h ⊢
  rw [h2, a1, a2, a3, a4]
  exact h
theorem DR_cong {X : tS} {x : Nat} (h : DRx bi sp C D A x) (hX : ∀ p, p ≠ 1 → X p = C p) (hh : X 1 8 = 34 + B 35 6 + B 35 7 ∧ X 1 9 = B 35 15 ∧ X 1 10 = B 35 16 ∧ X 1 11 = B 35 20 ∧ X 1 12 = B 35 21 ∧ X 1 13 = B 35 19 ∧ X 1 14 = B 35 18) (hB : ∀ o, o ≠ 35 → B o = A o) (h6 : B 35 6 = A 35 6) (h15 : B 35 15 = A 35 15) (h16 : B 35 16 = A 35 16) : DRx bi sp X D B x := by
  obtain ⟨-, r2, r3, r4, r5, r6⟩ := h
  refine ⟨hh, fun i hi hx => ?_, fun q => ?_, fun b hb => KB_cong (r4 b hb) (hX 2 (by decide)) (hB 39 (by decide)) (hB 40 (by decide)) (hB 41 (by decide)) h6, fun b hb => ?_, fun b hb => ?_⟩
  · rw [h15] at hx ⊢
    rw [h16] at hi
    exact SL_cong (r2 i hi hx) (hX 6 (by decide)) (hX 7 (by decide)) (hX 9 (by decide)) (hB 42 (by decide)) (hB 43 (by decide)) (hB 44 (by decide)) (hB 45 (by decide))
  · rw [hX 6 (by decide), hX 7 (by decide), hX 9 (by decide), hB 42 (by decide), hB 43 (by decide), hB 44 (by decide)]
    exact r3 q
  · unfold vsN
    rw [hX 4 (by decide), h15, h16, hB 42 (by decide)]
    exact r5 b hb
  · rw [hX 5 (by decide), hB 46 (by decide)]
    exact r6 b hb
theorem lose12 (hz : ∀ b, A 46 b = 0) : ∀ m k f σ C, CM b0 σ C D → C 1 9 < 256 → C 1 10 ≤ 256 → (∀ i, i < C 1 10 → C 6 ((C 1 9 + i) % 256) < 6130) → (∀ b, b < 6130 → C 5 b = 0) → k + m = C 1 10 → m < f → wp (FC b0) σ (L_X0_losePower_12 b0 fu f (b0 + 1) (nI k) σ) (fun _ τ => CM b0 τ C D) := by
  intro m
  induction m with
  | zero =>
    intro k f σ C h h9 h10 hs h5 hk hf
    obtain ⟨f, rfl⟩ : ∃ q, f = q + 1 := ⟨f - 1, by omega⟩
    unfold L_X0_losePower_12
    rw [ltb_def, ckC_1 h.lay, cf_1_10 h.ca, if_l (by omega) (by omega), if_pos (by omega)]
    exact wp_ret ((FC_good b0).1 _) h
  | succ m ih =>
    intro k f σ C h h9 h10 hs h5 hk hf
    obtain ⟨f, rfl⟩ : ∃ q, f = q + 1 := ⟨f - 1, by omega⟩
    have L := h.lay
    have hb := hs k (by omega)
    have m1 : (C 1 9 + k) % 256 < 256 := Nat.mod_lt _ (by omega)
    have e1 : nI (C 1 9) + nI k - (nI (C 1 9) + nI k) / (256 : Int32) * (256 : Int32) = nI ((C 1 9 + k) % 256) := by
      rw [nI_add]
      exact pk_rem (d := 256) (by omega) (by omega) (by omega)
    unfold L_X0_losePower_12
    rw [ltb_def, ckC_1 L, cf_1_10 h.ca, cf_1_9 h.ca, if_l (by omega) (by omega), if_neg (by omega), osm_p (rfC_1_3 L), osm_p (rfC_1_4 L), ckC_6 L, e1, ckI_n m1 (by omega), nI_cl (by omega), cd_6 h.ca, ckC_5 L, ckI_n hb (by omega), nI_cl (by omega), ltb_def, ofi]
    have h1 : CM b0 (sI σ (b0 + 5) (C 6 ((C 1 9 + k) % 256)) 0) (up2 C 5 (C 6 ((C 1 9 + k) % 256)) 0) D := CM_fix (o := 5) h rfl rfl (by decide)
    have e2 : up2 C 5 (C 6 ((C 1 9 + k) % 256)) 0 = C := by
      have := up2_id C 5 (C 6 ((C 1 9 + k) % 256))
      rw [h5 _ hb] at this
      exact this
    rw [e2] at h1
    exact wp_from (FC_good b0) (FC_sI h.rf (by omega)) (ih (k + 1) f _ C h1 h9 h10 hs h5 (by omega) (by omega))
theorem losePower_c (h : CM b0 σ C D) (hR : DR bi sp C D A) (hd : dsk A K) (hz : ∀ b, A 46 b = 0) (hu : 3000 ≤ fu) : wp (FC b0) σ (m_X0_losePower b0 fu (b0 + 1) σ) (fun _ τ => ∃ C', CM b0 τ C' D ∧ DR bi sp C' D (powA A) ∧ cO C C') := by
  have hR0 := hR
  obtain ⟨⟨r1, r2, r3, r4, r5, r6, r7⟩, rs, -, rk, rc, rch⟩ := hR
  obtain ⟨d1, d2, d3, d4, d5, d6, d7⟩ := hd
  have L := h.lay
  refine wp_grw (FC_good b0) ?_
  rw [ckC_1 L]
  have k1 := CM_fix (o := 1) (j := 14) (x := 0) (v := 0) h rfl rfl (by decide)
  have k2 := CM_fix (o := 1) (j := 13) (x := 0) (v := -1) k1 rfl (show (-1 : Int32) = nI 0 - 1 by decide) (by decide)
  generalize hX : up2 (up2 C 1 14 0) 1 13 0 = X at k2
  have x1 : ∀ q, q ≠ 13 → q ≠ 14 → X 1 q = C 1 q := fun q e1 e2 => by rw [← hX, up2_j e1, up2_j e2]
  have xo : ∀ p, p ≠ 1 → X p = C p := fun p e1 => by rw [← hX, up2_rown e1, up2_rown e1]
  refine wp_from (FC_good b0) (FC_2 (FC_sI h.rf (by omega)) (FC_sI k1.rf (by omega))) (wp_mono (lose12 (A := A) (D := D) hz (A 35 16) 0 fu _ X k2 ?_ ?_ (fun i hi => ?_) (fun b hb => ?_) ?_ (by omega)) ?_)
  · rw [x1 9 (by decide) (by decide), r2]; exact d3
  · rw [x1 10 (by decide) (by decide), r3]; exact d4
  · rw [x1 10 (by decide) (by decide), r3] at hi
    rw [x1 9 (by decide) (by decide), r2, xo 6 (by decide), (rs i hi (by have := Nat.mod_lt (A 35 15 + i) (show 0 < 256 by omega); omega)).1]
    have := (d7 i hi).1
    omega
  · rw [xo 5 (by decide), rch b hb]; exact hz b
  · rw [x1 10 (by decide) (by decide), r3]; omega
  · intro _ ρ _ q
    refine ⟨X, q, ?_, fun p h1 _ _ _ _ _ _ => xo p h1⟩
    have p35 : ∀ j, j ≠ 18 → j ≠ 19 → powA A 35 j = A 35 j := fun j e1 e2 => by
      unfold powA
      rw [fl_row (by decide), up2_j e2, up2_j e1]
    have po : ∀ o, o ≠ 35 → powA A o = A o := fun o ho => by
      by_cases e : o = 46
      · subst e
        funext j
        unfold powA
        rw [fl_at]
        split
        · exact (hz j).symm
        · rw [up2_o (by decide), up2_o (by decide)]
      · unfold powA
        rw [fl_row e, up2_rown ho, up2_rown ho]
    refine DR_cong hR0 xo ⟨?_, ?_, ?_, ?_, ?_, ?_, ?_⟩ po (p35 6 (by decide) (by decide)) (p35 15 (by decide) (by decide)) (p35 16 (by decide) (by decide))
    · rw [x1 8 (by decide) (by decide), p35 6 (by decide) (by decide), p35 7 (by decide) (by decide)]; exact r1
    · rw [x1 9 (by decide) (by decide), p35 15 (by decide) (by decide)]; exact r2
    · rw [x1 10 (by decide) (by decide), p35 16 (by decide) (by decide)]; exact r3
    · rw [x1 11 (by decide) (by decide), p35 20 (by decide) (by decide)]; exact r4
    · rw [x1 12 (by decide) (by decide), p35 21 (by decide) (by decide)]; exact r5
    · rw [← hX, up2_s]
      unfold powA
      rw [fl_row (by decide), up2_s]
    · rw [← hX, up2_j (by decide), up2_s]
      unfold powA
      rw [fl_row (by decide), up2_j (by decide), up2_s]
theorem EP_ad (D : tD) {n m : Nat} : EP D (adE D n m) n m := by
  have e : kpn (adE D n m) = kpn D := rfl
  have e1 : dE (adE D n m) = dE D + n := rfl
  have e2 : dO (adE D n m) = dO D + m := rfl
  exact ⟨by rw [e, e1]; omega, by rw [e, e2]; omega⟩
theorem JP_ad {n m : Nat} (h : JP D D') : JP D (adE D' n m) := h
theorem act_c (h : CM b0 σ C D) (hR : DR bi sp C D A) (hd : dsk A K) (hz : ∀ b, A 46 b = 0) (hu : 3000 ≤ fu) : wp (FC b0) σ (m_X0_act b0 fu (b0 + 1) σ) (fun v τ => DX b0 bi sp C D 256 v τ (if A 35 19 = 1 then .inr (powA A) else .inl (actA A))) := by
  have hR0 := hR
  obtain ⟨⟨r1, r2, r3, r4, r5, r6, r7⟩, rs, -, rk, rc, rch⟩ := hR
  have hd0 := hd
  obtain ⟨d1, d2, d3, d4, d5, d6, d7⟩ := hd
  have L := h.lay
  have b13 : A 35 19 < 2147483649 := by rw [← r6]; exact cb_1_13 h.ca
  obtain ⟨z1, z2⟩ := cut_c b13
  refine wp_grw (FC_good b0) ?_
  rw [ckC_1 L, cf_1_13 h.ca, r6]
  by_cases c : A 35 19 = 1
  · rw [if_pos (z1.mpr c), if_pos c]
    refine wp_bind (FC_good b0) (losePower_c (fu := fu) h hR0 hd0 hz hu) ?_
    rintro _ ρ ⟨C', q1, q2, q3⟩
    refine wp_ret (FC_new q1.rf q1.lay.1) ⟨rfl, C', adE D 6 1, CM_new q1, q2, q3, JP_r D, EP_ad D⟩
  · rw [if_neg (fun r => c (z1.mp r)), if_neg c]
    have fin : ∀ (ρ : tM) (X : tS), CM b0 ρ X D → (∀ p, p ≠ 1 → X p = C p) → (∀ q, q ≠ 13 → X 1 q = C 1 q) → X 1 13 = (if 1 < A 35 19 then A 35 19 - 1 else A 35 19) → wp (FC b0) ρ (J_X0_act_38 b0 fu (b0 + 1) ρ) (fun v τ => DX b0 bi sp C D 256 v τ (.inl (actA A))) := by
      intro ρ X q xo x1 x13
      unfold J_X0_act_38
      rw [ckC_1 q.lay, cf_1_11 q.ca, x1 11 (by decide), r4, show nI (A 35 20) + (1 : Int32) = nI (A 35 20 + 1) from nI_add _ 1]
      have k1 := CM_fix (o := 1) (j := 11) (x := A 35 20 + 1) (v := nI (A 35 20 + 1)) q rfl rfl (by show _ < 2147483648; omega)
      refine wp_ret (FC_sI q.rf (by omega)) ⟨rfl, _, D, k1, ?_, cO_up (by omega) (fun p h1 _ _ _ _ _ _ => xo p h1), JP_r D, EP_r D⟩
      have a19 : actA A 35 19 = if 1 < A 35 19 then A 35 19 - 1 else A 35 19 := by
        unfold actA
        rw [up2_j (by decide)]
        split
        · rw [up2_s]
        · rfl
      have a35 : ∀ j, j ≠ 19 → j ≠ 20 → actA A 35 j = A 35 j := fun j e1 e2 => actA_35 A j e1 e2
      refine DR_cong hR0 (fun p hp => by rw [up2_rown hp]; exact xo p hp) ⟨?_, ?_, ?_, ?_, ?_, ?_, ?_⟩ (fun o ho => by funext j; exact actA_o A j ho) (a35 6 (by decide) (by decide)) (a35 15 (by decide) (by decide)) (a35 16 (by decide) (by decide))
      · rw [up2_j (by decide), x1 8 (by decide), a35 6 (by decide) (by decide), a35 7 (by decide) (by decide)]; exact r1
      · rw [up2_j (by decide), x1 9 (by decide), a35 15 (by decide) (by decide)]; exact r2
      · rw [up2_j (by decide), x1 10 (by decide), a35 16 (by decide) (by decide)]; exact r3
      · rw [up2_s]
        unfold actA
        rw [up2_s]
      · rw [up2_j (by decide), x1 12 (by decide), a35 21 (by decide) (by decide)]; exact r5
      · rw [up2_j (by decide), x13, a19]
      · rw [up2_j (by decide), x1 14 (by decide), a35 18 (by decide) (by decide)]; exact r7
    by_cases c2 : A 35 19 ≤ 1
    · rw [if_pos (z2.mpr c2)]
      exact fin σ C h (fun _ _ => rfl) (fun _ _ => rfl) (by rw [r6, if_neg (by omega)])
    · rw [if_neg (fun r => c2 (z2.mp r)), show nI (A 35 19) - 1 - 1 = nI (A 35 19 - 1) - 1 from by rw [show nI (A 35 19) - (1 : Int32) = nI (A 35 19 - 1) from nI_sb (b := 1) (by omega)]]
      have k1 := CM_fix (o := 1) (j := 13) (x := A 35 19 - 1) (v := nI (A 35 19 - 1) - 1) h rfl rfl (by show _ < 2147483648; omega)
      exact wp_from (FC_good b0) (FC_sI h.rf (by omega)) (fin _ _ k1 (fun p hp => up2_rown hp) (fun q hq => up2_j hq) (by rw [up2_s, if_pos (by omega)]))
end DN
