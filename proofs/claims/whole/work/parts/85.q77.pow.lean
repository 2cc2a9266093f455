/-! ===== PURE: apply, crash, cut, choose, shuffle, versions, in both ===== -/
/-- power is on, or off -/
def ST (Φ : tPh) (bi sp : Nat → Nat) (w : Nat → Nat × Nat) (C : tS) (D : tD) (A : tS) (J : tJ) : Prop := RO Φ bi sp w C D A J ∨ OF Φ bi sp C D A J
/-- a method that only answers -/
def NZ (Φ : tPh) (b0 : Nat) (bi sp : Nat → Nat) (w : Nat → Nat × Nat) (D : tD) (J : tJ) (v : Int32) (τ : tM) (X : Int × tS) : Prop := v = iz X.1 ∧ X.2 35 0 = 0 ∧ ∃ C', CM b0 τ C' D ∧ ST Φ bi sp w C' D X.2 J
def aqM (J : tJ) (d : Nat) (X : tS ⊕ tS) : Int × tP := match X with
  | .inl B => ((d : Int), (B, J))
  | .inr B => ofS (B, J)
section PUE
variable {Φ : tPh} {b0 fu : Nat} {σ τ : tM} {bi sp : Nat → Nat} {w : Nat → Nat × Nat} {C C' X : tS} {D D' D'' : tD} {A B : tS} {J J' : tJ} {K n m k r b id e o un : Nat}
theorem ST_co (h : ST Φ bi sp w C D A J) : CO Φ bi sp C D A J := by
  rcases h with h | h
  · exact h.1
  · exact h.1
theorem ST_scr (hΦ : goodT Φ) (hok : ∀ w A, Φ w A → okT A) (h : ST Φ bi sp w C D A J) (s : sC A B) : ST Φ bi sp w C D B J := by
  rcases h with h | h
  · exact Or.inl (RO_scr hΦ hok h s)
  · exact Or.inr (OF_scr hΦ hok h s)
/-- what the disk keeps is chosen -/
theorem OF_46 (hΦ : goodT Φ) (hok : ∀ w A, Φ w A → okT A) (h : OF Φ bi sp C D A J) (hR : DR bi sp C' D B) (hc : cO C C') (ho : ∀ o, o ≠ 46 → B o = A o) (g1 : ∀ b, b < 6130 → B 46 b ≤ vsN A b) (g2 : ∀ b, 6130 ≤ b → B 46 b = 0) : OF Φ bi sp C' D B J := by
  have B35 := ho 35 (by decide)
  have sd : sD A B := ⟨ho 39 (by decide), ho 40 (by decide), ho 42 (by decide), ho 43 (by decide), ho 44 (by decide), by rw [B35], by rw [B35]⟩
  obtain ⟨hCO, hoff, hun, h4, h5⟩ := h
  have r5 := hCO.2.2.2.2.1
  have r6 := hCO.2.2.2.2.2.1
  have r7 := hCO.2.2.2.2.2.2.1
  refine ⟨CO_disk hΦ hok hCO hR hc (JP_r D) ⟨fun o a b => ho o (by omega), fun q _ _ _ _ _ _ => by rw [B35]⟩ (LGd_dk r5 (fun q _ => by rw [B35]) (fun k i _ _ x => ⟨NV_sD sd x, cur_sD sd⟩)) ?_ ?_, by rw [B35]; exact hoff, ?_, fun b hb => ?_, g2⟩
  · have := AV_sD sd r6
    unfold HDd
    rw [B35]
    exact this
  · have := AV_sD sd r7
    unfold RG
    rw [B35]
    exact this
  · unfold UNF whB
    unfold UNF whB at hun
    rw [B35]
    rcases hun with q | ⟨q1, i, q2, q3⟩
    · exact Or.inl q
    · exact Or.inr ⟨q1, i, q2, AV_sD sd q3⟩
  · have : vsN B b = vsN A b := by
      unfold vsN
      rw [ho 42 (by decide), B35]
    rw [this]
    exact g1 b hb
/-- versions -/
theorem versions_c (hΦ : goodT Φ) (hok : ∀ w A, Φ w A → okT A) {x : Int32} (h : CM b0 σ C D) (hR : ST Φ bi sp w C D A J) (hd : dsk A K) :
    wp (FC b0) σ (m_X10_versions b0 fu (b0 + 0) x σ) (fun v τ => NZ Φ b0 bi sp w D J v τ (vsA x A)) := by
  have L := h.lay
  refine wp_grw (FC_good b0) ?_
  rw [ckC_0 L, osm_p (rfC_0_0 L), ckC_1 L, countOf_c h (ST_co hR).1 hd, cll_some]
  unfold J_X10_versions_19 vsA
  by_cases c : x < 0 ∨ 34 + A 35 6 + A 35 7 ≤ x.toNatClampNeg
  · rw [if_pos c, if_pos c, if_neg (by decide)]
    exact wp_ret ((FC_good b0).1 _) ⟨rfl, up2_s A 35 0 0, C, h, ST_scr hΦ hok hR sC_0⟩
  · have b : vsN A x.toNatClampNeg ≤ A 35 16 := by
      unfold vsN
      exact cn_le _ _ _
    have d4 := hd.2.2.2.1
    rw [if_neg c, if_neg c, if_pos (by rw [iz_n]; exact Int32.not_lt.mp (nI_pos (by omega)))]
    exact wp_ret ((FC_good b0).1 _) ⟨rfl, up2_s A 35 0 0, C, h, ST_scr hΦ hok hR sC_0⟩
theorem CM_cut (h : CM b0 σ C D) {y : Nat} {v : Int32} (hv : v = nI y - 1) (hy : y < 2147483649) : CM b0 (sI σ (b0 + 1) 13 v) (up2 C 1 13 y) D := by
  obtain ⟨h1, h2, h3, pl, h5⟩ := h
  have ca : CA b0 (sI σ (b0 + 1) 13 v) (up2 C 1 13 y) := by
    refine ⟨h1.1, fun p q e => ?_, fun q => ?_, fun p q => ?_⟩
    · rw [rd_II]
      by_cases hp : p = 1
      · subst hp
        rw [if_pos rfl]
        by_cases hq : q = 13
        · subst hq
          rw [if_pos rfl, up2_s, hv]
          rfl
        · rw [if_neg hq, up2_j hq, h1.2.1 1 q e]
      · rw [if_neg (by omega), up2_o hp, h1.2.1 p q e]
    · rw [up2_o (by decide)]
      exact h1.2.2.1 q
    · by_cases hp : p = 1
      · subst hp
        by_cases hq : q = 13
        · subst hq
          rw [up2_s]
          exact hy
        · rw [up2_j hq]
          exact h1.2.2.2 1 q
      · rw [up2_o hp]
        exact h1.2.2.2 p q
  exact ⟨ca, h2, h3, pl, DY_same h5 (Nat.le_refl _) (fun a _ q => q) (fun _ _ _ => rfl) ⟨rfl, rfl, rfl⟩ (fun a q1 _ _ _ => same_sI (by omega))⟩
/-- cut -/
theorem cutM_c (hΦ : goodT Φ) (hok : ∀ w A, Φ w A → okT A) {x : Int32} (h : CM b0 σ C D) (hR : ST Φ bi sp w C D A J) :
    wp (FC b0) σ (m_X10_cut b0 fu (b0 + 0) x σ) (fun v τ => NZ Φ b0 bi sp w D J v τ (cuA x A)) := by
  have L := h.lay
  have hR0 := ST_scr hΦ hok hR (sC_0 (A := A) (v := 0))
  have h0 : up2 A 35 0 0 35 0 = 0 := up2_s A 35 0 0
  refine wp_grw (FC_good b0) ?_
  unfold cuA
  by_cases c : x < -1
  · rw [if_neg (Int32.not_le.mpr c), if_pos c]
    exact wp_ret ((FC_good b0).1 _) ⟨rfl, h0, C, h, hR0⟩
  · obtain ⟨e1, e2⟩ := cut_x c
    rw [if_pos (Int32.not_lt.mp c), if_neg c, ckC_0 L, osm_p (rfC_0_0 L), ckC_1 L]
    generalize up2 A 35 0 0 = A at *
    generalize hy : (x.toInt + 1).toNat = y at *
    have cm : CM b0 (sI σ (b0 + 1) 13 x) (up2 C 1 13 y) D := CM_cut h e1 e2
    have co : cO C (up2 C 1 13 y) := fun p hp _ _ _ _ _ _ => up2_rown hp
    have dk : dkO A (up2 A 35 19 y) := ⟨fun o a _ => up2_rown a, fun q _ _ _ a _ _ => up2_j a⟩
    have bo : ∀ o, o ≠ 35 → up2 A 35 19 y o = A o := fun o ho => up2_rown ho
    have bf : ∀ q, q ≠ 19 → up2 A 35 19 y 35 q = A 35 q := fun q hq => up2_j hq
    have sd : sD A (up2 A 35 19 y) := ⟨bo _ (by decide), bo _ (by decide), bo _ (by decide), bo _ (by decide), bo _ (by decide), bf _ (by decide), bf _ (by decide)⟩
    have hCO := ST_co hR0
    obtain ⟨⟨r1, r2, r3, r4, r5, r6, r7⟩, -⟩ := hCO.1
    have dr : DR bi sp (up2 C 1 13 y) D (up2 A 35 19 y) := DR_cong hCO.1 (fun p hp => up2_rown hp) ⟨by rw [up2_j (by decide), bf 6 (by decide), bf 7 (by decide)]; exact r1, by rw [up2_j (by decide), bf 15 (by decide)]; exact r2, by rw [up2_j (by decide), bf 16 (by decide)]; exact r3, by rw [up2_j (by decide), bf 20 (by decide)]; exact r4, by rw [up2_j (by decide), bf 21 (by decide)]; exact r5, by rw [up2_s, up2_s], by rw [up2_j (by decide), bf 18 (by decide)]; exact r7⟩ bo (bf 6 (by decide)) (bf 15 (by decide)) (bf 16 (by decide))
    have co2 : CO Φ bi sp (up2 C 1 13 y) D (up2 A 35 19 y) J := by
      refine CO_disk hΦ hok hCO dr co (JP_r D) dk (LGd_dk hCO.2.2.2.2.1 (fun q hq => bf q (by omega)) (fun k i _ _ x => ⟨NV_sD sd x, cur_sD sd⟩)) ?_ ?_
      · have := AV_sD sd hCO.2.2.2.2.2.1
        unfold HDd
        rw [bf 35 (by decide), bf 28 (by decide)]
        exact this
      · have := AV_sD sd hCO.2.2.2.2.2.2.1
        unfold RG
        rw [bf 6 (by decide), bf 7 (by decide), bf 34 (by decide)]
        exact this
    refine wp_ret (FC_sI (o := 1) h.rf (by omega)) ⟨(Int32.ofInt_toInt x).symm, by show up2 A 35 19 y 35 0 = 0; rw [bf 0 (by decide)]; exact h0, _, cm, ?_⟩
    have wv : ∀ k i, whB (up2 A 35 19 y) J k i = whB A J k i := fun k i => by unfold whB; rw [bf 6 (by decide)]
    show ST Φ bi sp w (up2 C 1 13 y) D (up2 A 35 19 y) J
    rcases hR0 with q | q
    · obtain ⟨-, hSR, hT, hLc, hHc, hgh, hon, hnr, h46⟩ := q
      refine Or.inl ⟨co2, SR_disk hSR co dk, hΦ w A _ (bo 36 (by decide)) (bf 7 (by decide)) hT, fun k i k1 k2 => ?_, ?_, ?_, ?_, ?_, ?_⟩
      · rw [bf 28 (by decide), bf 35 (by decide)] at k1
        rw [wv, cur_sD sd]
        exact hLc k i k1 k2
      · unfold HDc
        rw [cur_sD sd, bf 31 (by decide)]
        exact hHc
      · rw [up2_rown (by decide), bf 28 (by decide), bf 35 (by decide)]
        exact hgh
      · rw [bf 18 (by decide)]
        exact hon
      · rw [bf 28 (by decide), bf 35 (by decide)]
        exact hnr
      · rw [bo 46 (by decide)]
        exact h46
    · obtain ⟨-, hoff, hun, h4, h5⟩ := q
      refine Or.inr ⟨co2, by rw [bf 18 (by decide)]; exact hoff, ?_, fun b hb => ?_, by rw [bo 46 (by decide)]; exact h5⟩
      · unfold UNF
        rw [bf 28 (by decide), bf 35 (by decide)]
        rcases hun with q | ⟨q1, i, q2, q3⟩
        · exact Or.inl q
        · refine Or.inr ⟨q1, i, q2, ?_⟩
          rw [wv]
          exact AV_sD sd q3
      · have : vsN (up2 A 35 19 y) b = vsN A b := by
          unfold vsN
          rw [bo 42 (by decide), bf 15 (by decide), bf 16 (by decide)]
        rw [bo 46 (by decide), this]
        exact h4 b hb
/-- choose -/
theorem choose_c (hΦ : goodT Φ) (hok : ∀ w A, Φ w A → okT A) {x y : Int32} (h : CM b0 σ C D) (hR : ST Φ bi sp w C D A J) (hd : dsk A K) :
    wp (FC b0) σ (m_X10_choose b0 fu (b0 + 0) x y σ) (fun v τ => NZ Φ b0 bi sp w D J v τ (chA x y A)) := by
  have L := h.lay
  have r7 := (ST_co hR).1.1.2.2.2.2.2.2
  have s1 := ST_scr hΦ hok hR (sC_0 (A := A) (v := 0))
  have s2 := ST_scr hΦ hok s1 (sC_0 (A := up2 A 35 0 0) (v := 0))
  have no1 : NZ Φ b0 bi sp w D J (-9) σ (-9, up2 A 35 0 0) := ⟨rfl, up2_s A 35 0 0, C, h, s1⟩
  have no2 : NZ Φ b0 bi sp w D J (-9) σ (-9, up2 (up2 A 35 0 0) 35 0 0) := ⟨rfl, up2_s (up2 A 35 0 0) 35 0 0, C, h, s2⟩
  refine wp_grw (FC_good b0) ?_
  rw [ckC_0 L, osm_p (rfC_0_0 L), ckC_1 L, cf_1_14 h.ca, r7]
  unfold J_X10_choose_26 chA
  rcases hR with q | q
  · have on : A 35 18 = 1 := q.2.2.2.2.2.2.1
    rw [on, if_pos (Or.inl (show (1 : Nat) ≠ 0 by decide)), if_neg (by decide)]
    exact wp_ret ((FC_good b0).1 _) no1
  · have off : A 35 18 = 0 := q.2.1
    rw [off, if_pos (show nI 0 = 0 by decide)]
    by_cases cy : y < 0
    · rw [if_pos cy]
      by_cases cx : (0 : Nat) ≠ 0 ∨ x < 0 ∨ 34 + A 35 6 + A 35 7 ≤ x.toNatClampNeg
      · rw [if_pos cx]
        exact wp_ret ((FC_good b0).1 _) no1
      · rw [if_neg cx, if_pos (Or.inl cy)]
        exact wp_ret ((FC_good b0).1 _) no2
    obtain ⟨v, hv, rfl⟩ := nI_of cy
    rw [if_neg cy, osm_p (rfC_0_0 L), ckC_1 L, countOf_c h q.1.1 hd, cll_some]
    by_cases cx : x < 0 ∨ 34 + A 35 6 + A 35 7 ≤ x.toNatClampNeg
    · have t : iz (-1) = -1 := rfl
      rw [if_pos cx, if_pos (Or.inr cx), t, if_neg (fun q => cy (Int32.lt_of_le_of_lt q (by decide)))]
      exact wp_ret ((FC_good b0).1 _) no1
    obtain ⟨b, hb, rfl⟩ := nI_of (fun q => cx (Or.inl q))
    rw [if_neg cx, if_neg (show ¬ ((0 : Nat) ≠ 0 ∨ nI b < 0 ∨ 34 + A 35 6 + A 35 7 ≤ (nI b).toNatClampNeg) from fun q => q.elim (fun q => q rfl) cx), nI_cl hb, nI_cl hv, iz_n]
    rw [nI_cl hb] at cx
    have bl : b < 34 + A 35 6 + A 35 7 := by omega
    have vb : vsN A b ≤ A 35 16 := by
      unfold vsN
      exact cn_le _ _ _
    have d4 := hd.2.2.2.1
    have d1 := hd.1
    have d2 := hd.2.1
    rw [if_l hv (by omega)]
    by_cases cv : v ≤ vsN A b
    · rw [if_pos cv, if_neg (show ¬ (nI v < 0 ∨ vsN A b < v) from fun q => q.elim cy (by omega)), ckC_0 L, osm_p (rfC_0_0 L), ckC_1 L]
      refine wp_bind (FC_good b0) (setChoice_c (fu := fu) h q.1.1 hd bl hv) ?_
      rintro _ ρ ⟨C', q1, q2, q3⟩
      have L2 := q1.lay
      have vs : vsN (up2 A 46 b v) b = vsN A b := by
        unfold vsN
        rw [up2_rown (by decide), up2_rown (by decide)]
      have e35 : up2 A 46 b v 35 = A 35 := up2_rown (by decide)
      rw [ckC_0 L2, osm_p (rfC_0_0 L2), ckC_1 L2, countOf_c q1 q2 (K := K) (dsk_cg hd (fun q _ => by rw [e35]) (up2_rown (by decide)) (up2_rown (by decide))), cll_some, nI_cl hb, vs, e35, if_neg (show ¬ (nI b < 0 ∨ 34 + A 35 6 + A 35 7 ≤ b) from fun q => q.elim (nI_pos hb) (by omega))]
      have of : OF Φ bi sp C' D (up2 A 46 b v) J := OF_46 hΦ hok q q2 q3 (fun o ho => up2_rown ho) (fun b' hb' => by
        by_cases c : b' = b
        · rw [c, up2_s]
          exact cv
        · rw [up2_j c]
          exact q.2.2.2.1 b' hb') (fun b' hb' => by
        rw [up2_j (by omega)]
        exact q.2.2.2.2 b' hb')
      have ec : up2 (up2 (up2 A 35 0 0) 35 0 0) 46 b v = up2 (up2 (up2 A 46 b v) 35 0 0) 35 0 0 := by
        funext p j
        unfold up2
        by_cases c1 : p = 46
        · subst c1
          simp
        · by_cases c2 : p = 35
          · subst c2
            simp
          · simp [c1, c2]
      refine wp_ret ((FC_good b0).1 _) ⟨rfl, ?_, C', q1, ?_⟩
      · show up2 (up2 (up2 A 35 0 0) 35 0 0) 46 b v 35 0 = 0
        rw [up2_o (by decide), up2_s]
      · show ST Φ bi sp w C' D (up2 (up2 (up2 A 35 0 0) 35 0 0) 46 b v) J
        rw [ec]
        exact Or.inr (OF_scr hΦ hok (OF_scr hΦ hok of sC_0) sC_0)
    · rw [if_neg cv, if_pos (show nI v < 0 ∨ vsN A b < v from Or.inr (by omega))]
      exact wp_ret ((FC_good b0).1 _) no2
theorem shL_f {seed : Int64} : ∀ m b d (A : tS), (∀ o, o ≠ 46 → (shL seed m b d A).2 o = A o) ∧ ∀ j, (shL seed m b d A).2 46 j = A 46 j ∨ (b ≤ j ∧ j < b + m ∧ (shL seed m b d A).2 46 j ≤ A 68 j)
  | 0, b, d, A => ⟨fun _ _ => rfl, fun j => Or.inl rfl⟩
  | m + 1, b, d, A => by
    have lx : shL seed (m + 1) b d A = if A 68 b = 0 then shL seed m (b + 1) d A else shL seed m (b + 1) (d + 1) (up2 A 46 b (shV seed b (A 68 b))) := rfl
    rw [lx]
    by_cases c : A 68 b = 0
    · rw [if_pos c]
      obtain ⟨i1, i2⟩ := shL_f (seed := seed) m (b + 1) d A
      refine ⟨i1, fun j => ?_⟩
      rcases i2 j with q | ⟨q1, q2, q3⟩
      · exact Or.inl q
      · exact Or.inr ⟨by omega, by omega, q3⟩
    · rw [if_neg c]
      obtain ⟨i1, i2⟩ := shL_f (seed := seed) m (b + 1) (d + 1) (up2 A 46 b (shV seed b (A 68 b)))
      refine ⟨fun o ho => by rw [i1 o ho, up2_rown ho], fun j => ?_⟩
      rcases i2 j with q | ⟨q1, q2, q3⟩
      · by_cases cj : j = b
        · refine Or.inr ⟨by omega, by omega, ?_⟩
          rw [q, cj, up2_s]
          unfold shV
          have := Nat.mod_lt (seed.toBitVec.toNat / 2 ^ (b % 54) % 1024) (show 0 < A 68 b + 1 by omega)
          omega
        · exact Or.inl (by rw [q, up2_j cj])
      · refine Or.inr ⟨by omega, by omega, ?_⟩
        rw [up2_rown (by decide)] at q3
        exact q3
/-- shuffle -/
theorem shuffle_c (hΦ : goodT Φ) (hok : ∀ w A, Φ w A → okT A) {seed : Int64} (hu : 10000 ≤ fu) (h : CM b0 σ C D) (hR : ST Φ bi sp w C D A J) (hd : dsk A K) :
    wp (FC b0) σ (m_X10_shuffle b0 fu (b0 + 0) seed σ) (fun v τ => NZ Φ b0 bi sp w D J v τ (shA seed A)) := by
  have L := h.lay
  have r7 := (ST_co hR).1.1.2.2.2.2.2.2
  have s1 := ST_scr hΦ hok hR (sC_0 (A := A) (v := 0))
  have h0 : up2 A 35 0 0 35 0 = 0 := up2_s A 35 0 0
  refine wp_grw (FC_good b0) ?_
  rw [ckC_0 L, osm_p (rfC_0_0 L), ckC_1 L, cf_1_14 h.ca, r7]
  unfold J_X10_shuffle_23 shA
  rcases hR with q | q
  · have on : A 35 18 = 1 := q.2.2.2.2.2.2.1
    rw [on, if_pos (show (1 : Nat) ≠ 0 by decide), if_neg (by decide)]
    exact wp_ret ((FC_good b0).1 _) ⟨rfl, h0, C, h, s1⟩
  · have off : A 35 18 = 0 := q.2.1
    have q' := OF_scr hΦ hok q (sC_0 (A := A) (v := 0))
    have hd' := dsk_scr hd (sC_0 (A := A) (v := 0))
    rw [off, if_pos (show nI 0 = 0 by decide), if_neg (show ¬ (0 : Nat) ≠ 0 by decide), osm_p (rfC_0_0 L), ckC_1 L]
    generalize up2 A 35 0 0 = A at *
    refine wp_bind (FC_good b0) (chooseAll_c (fu := fu) (seed := seed) h q'.1.1 hd' hu) ?_
    rintro v ρ ⟨e, C', q1, q2, q3⟩
    have so : ∀ o, o ≠ 68 → sh1 A o = A o := fun o ho => by unfold sh1; rw [seN_o ho, fl_row ho]
    have of : OF Φ bi sp C D (sh1 A) J := OF_scr hΦ hok q' ⟨fun o ho => so o (by omega), fun q _ _ _ => by rw [so 35 (by decide)]⟩
    have d1 := hd'.1
    have d2 := hd'.2.1
    obtain ⟨f1, f2⟩ := shL_f (seed := seed) (34 + A 35 6 + A 35 7) 0 0 (sh1 A)
    have v68 : ∀ b, b < 6200 → sh1 A 68 b = vsN (sh1 A) b := fun b hb => by
      have hv : vsN (sh1 A) b = vsN A b := by unfold vsN; rw [so 35 (by decide), so 42 (by decide)]
      rw [hv]
      unfold sh1 vsN
      rw [seN_68, fl_at, if_pos ⟨rfl, Nat.zero_le _, by omega⟩, Nat.zero_add, fl_row (by decide), fl_row (by decide)]
    have of2 : OF Φ bi sp C' D (shY seed A).2 J := OF_46 hΦ hok of q2 q3 f1 (fun b hb => by
      rcases f2 b with z | ⟨z1, z2, z3⟩
      · show (shL seed (34 + A 35 6 + A 35 7) 0 0 (sh1 A)).2 46 b ≤ _
        rw [z]
        exact of.2.2.2.1 b hb
      · rw [v68 b (by omega)] at z3
        exact z3) (fun b hb => by
      rcases f2 b with z | ⟨z1, z2, z3⟩
      · show (shL seed (34 + A 35 6 + A 35 7) 0 0 (sh1 A)).2 46 b = _
        rw [z]
        exact of.2.2.2.2 b hb
      · omega)
    refine wp_ret ((FC_good b0).1 _) ⟨by rw [e]; exact (iz_n _).symm, ?_, C', q1, Or.inr of2⟩
    show (shL seed (34 + A 35 6 + A 35 7) 0 0 (sh1 A)).2 35 0 = 0
    rw [f1 35 (by decide), so 35 (by decide)]
    exact h0
theorem aq_ap : ∀ m d (A : tS), A 35 29 - A 35 30 = m → aqL J n m d A = aqM J (d + min (n - d) m) (apN J (min (n - d) m) A)
  | 0, d, A, _ => by
    rw [Nat.min_zero]
    rfl
  | m + 1, d, A, h => by
    have lx : aqL J n (m + 1) d A = if n ≤ d ∨ A 35 29 ≤ A 35 30 then ((d : Int), (A, J)) else match applyX A J with
      | .inl B => aqL J n m (d + 1) B
      | .inr B => ofS (B, J) := rfl
    rw [lx]
    by_cases c : n ≤ d
    · rw [if_pos (Or.inl c), show n - d = 0 by omega, Nat.zero_min]
      rfl
    · rw [if_neg (by omega), show min (n - d) (m + 1) = min (n - (d + 1)) m + 1 by omega]
      have ax : apN J (min (n - (d + 1)) m + 1) A = bX (applyX A J) (apN J (min (n - (d + 1)) m)) := rfl
      rw [ax]
      have f := fun B e => apX_35 (J := J) (A := A) (B := B) e
      generalize applyX A J = X at *
      cases X with
      | inr B => rfl
      | inl B =>
        obtain ⟨f1, f2⟩ := f B rfl
        show aqL J n m (d + 1) B = aqM J _ (apN J (min (n - (d + 1)) m) B)
        rw [aq_ap m (d + 1) B (by omega), show d + 1 + min (n - (d + 1)) m = d + (min (n - (d + 1)) m + 1) by omega]
/-- apply -/
theorem applyM_c (hΦ : goodT Φ) (hok : ∀ w A, Φ w A → okT A) (hu : 5000 ≤ fu) {x : Int32} (h : CM b0 σ C D) (hR : RO Φ bi sp w C D A J ∨ OF Φ bi sp C D A J) (hb : A 35 18 = 1 → dsk (up2 A 35 0 0) (K + 2100 * (A 35 29 - A 35 30))) :
    wp (FC b0) σ (m_X10_apply b0 fu (b0 + 0) x σ) (fun v τ => SZ Φ b0 bi w D K 6 1 v τ (upX A J (aqY x J) un)) := by
  refine pub_c hΦ hok h hR (by omega) (by omega) (fun e18 q => ?_)
  have hb := hb e18
  have h0 : up2 A 35 0 0 35 0 = 0 := up2_s A 35 0 0
  rw [← show up2 A 35 0 0 35 29 = A 35 29 from up2_j (by decide), ← show up2 A 35 0 0 35 30 = A 35 30 from up2_j (by decide)] at hb
  generalize up2 A 35 0 0 = A at *
  unfold aqY
  show wp (FC b0) σ (if (0 : Int32) ≤ x then _ else _) _
  by_cases c : x < 0
  · rw [if_neg (Int32.not_le.mpr c), if_pos c]
    exact wp_ret ((FC_good b0).1 _) (Or.inl ⟨rfl, h0, sp, C, D, h, q, EL_le (EL_of (EP_r D)) (by omega) (by omega), dsk_le hb (by omega)⟩)
  · rw [if_pos (Int32.not_lt.mp c), if_neg c]
    obtain ⟨m, hm, rfl⟩ := nI_of c
    have L := h.lay
    have ap := applySome_c (fu := fu) (K := K) hΦ hok (by omega) hm h q hb
    have af := fun B e => apN_f (J := J) (min m (A 35 29 - A 35 30)) A B e
    rw [nI_cl hm, aq_ap _ _ _ rfl, Nat.sub_zero, Nat.zero_add, ckC_0 L, osm_p (rfC_0_3 L), ckC_20 L]
    generalize apN J (min m (A 35 29 - A 35 30)) A = Y at *
    cases Y with
    | inl B =>
      refine wp_clx (FC_good b0) ap (fun v ρ z => ?_) (fun ρ z => by cases z.1)
      obtain ⟨z0, C', D', z1, z2, z3, z4⟩ := z
      cases z0
      exact wp_ret ((FC_good b0).1 _) (Or.inl ⟨congrArg _ (iz_n _).symm, by show B 35 0 = 0; rw [(af B rfl).2 0 (by decide) (by omega)]; exact h0, sp, C', D', z1, z2, EL_le (EL_of z3) (by omega) (by omega), z4⟩)
    | inr B =>
      refine wp_clx (FC_good b0) ap (fun v ρ z => by cases z.1) (fun ρ z => ?_)
      obtain ⟨-, C', D', z1, z2, z3⟩ := z
      exact SZ_off hΦ hok z1 z2 (EL_of z3)
/-- crash -/
theorem crash_c (hΦ : goodT Φ) (hok : ∀ w A, Φ w A → okT A) (hu : 5000 ≤ fu) (h : CM b0 σ C D) (hR : ST Φ bi sp w C D A J) (hd : dsk A K) :
    wp (FC b0) σ (m_X10_crash b0 fu (b0 + 0) σ) (fun v τ => ((v = .inl (iz (crA A).1) ∧ (crA A).2 35 0 = 0) ∨ (v = .inr () ∧ (crA A).2 35 0 = 1)) ∧ ∃ C' D', CM b0 τ C' D' ∧ OF Φ bi sp C' D' (crA A).2 J ∧ EL D D' 6 1) := by
  have L := h.lay
  refine wp_grw (FC_good b0) ?_
  unfold crA
  rw [ckC_0 L, osm_p (rfC_0_0 L), ckC_1 L]
  rcases hR with q | q
  · have on : A 35 18 = 1 := q.2.2.2.2.2.2.1
    have q' := RO_scr hΦ hok q (sC_0 (A := A) (v := 0))
    have hd' := dsk_scr hd (sC_0 (A := A) (v := 0))
    have h0 : up2 A 35 0 0 35 0 = 0 := up2_s A 35 0 0
    rw [power_on h q, if_neg (by omega)]
    generalize up2 A 35 0 0 = A at *
    show wp (FC b0) σ (ckO b0 σ (b0 + 0) 10 _) _
    rw [ckC_0 L, osm_p (rfC_0_0 L), ckC_1 L]
    have lp := losePower_c (fu := fu) h q'.1.1 hd' q'.2.2.2.2.2.2.2.2 (by omega)
    have op := fun C' D' z1 z2 z3 => OF_pow (C' := C') (D' := D') hΦ hok q'.1 q'.2.2.2.2.2.2.2.1 z1 z2 z3 q'.2.2.2.2.2.2.2.2
    have p0 : powA A 35 0 = 0 := by rw [(dk_pow (A := A)).2 0 (by decide) (by decide) (by decide) (by decide) (by decide) (by decide)]; exact h0
    generalize powA A = P at *
    refine wp_bind (FC_good b0) lp ?_
    rintro _ ρ ⟨C', q1, q2, q3⟩
    have L2 := q1.lay
    rw [ckC_0 L2, osm_p (rfC_0_0 L2), ckC_1 L2, cf_1_10 q1.ca, q2.1.2.2.1]
    exact wp_ret ((FC_good b0).1 _) ⟨Or.inl ⟨congrArg _ (iz_n _).symm, p0⟩, C', D, q1, op C' D q2 q3 (JP_r D), EL_le (EL_of (EP_r D)) (by omega) (by omega)⟩
  · rw [if_pos q.2.1]
    refine wp_clx (FC_good b0) (power_off (fu := fu) hΦ hok h q) (fun v ρ z => by cases z.1) (fun ρ z => ?_)
    exact ⟨Or.inr ⟨rfl, up2_s (up2 A 35 0 0) 35 0 1⟩, C, _, z.2.1, OF_scr hΦ hok (OF_scr hΦ hok z.2.2.1 sC_0) sC_0, z.2.2.2⟩
end PUE
