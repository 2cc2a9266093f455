/-! ===== PURE: blocks made ready for bytes, in both ===== -/
section RDY
variable {b0 fu : Nat} {σ τ ρ : tM} {bi sp : Nat → Nat} {w : Nat → Nat × Nat} {C C' X : tS} {D D' : tD} {A B : tS} {J J' : tJ} {K n m k r t d l v un e o st x i a : Nat}
theorem nee_ptr (hp : ∀ i, 85 ≤ i → i < 95 → nd B d i = nd A d i) (pte : ∀ r k, pt B r k = pt A r k) : (∀ i, hasA B d i = hasA A d i) ∧ ∀ k m, nee B d k m = nee A d k m := by
  have lf : ∀ i, leafA B d i = leafA A d i := fun i => by
    unfold leafA
    rw [hp 93 (by omega) (by omega), hp 94 (by omega) (by omega), pte]
  have hs : ∀ i, hasA B d i = hasA A d i := fun i => by
    unfold hasA
    rw [lf, pte]
    by_cases c : i < 8
    · rw [if_pos c, if_pos c, hp _ (by omega) (by omega)]
    · rw [if_neg c, if_neg c]
  refine ⟨hs, fun k m => ?_⟩
  have nl : ∀ m i ll s t, ndL B d m i ll s t = ndL A d m i ll s t := by
    intro m
    induction m with
    | zero =>
      intro i ll s t
      rfl
    | succ m ih =>
      intro i ll s t
      unfold ndL
      simp only [hs, lf, ih]
  unfold nee
  rw [nl, hp 93 (by omega) (by omega), hp 94 (by omega) (by omega)]
/-- one block more; what is still wanted is still there -/
theorem ne_step (h : SR bi w C A) (hn : n < 64) (hkd : nd A n 0 = 1 ∨ nd A n 0 = 2) (him : i + (m + 1) ≤ 1064) (hne : neL C n i i (m + 1) ≤ fre A) (h34 : A 35 34 + 3 * (m + 1) < 1000000) :
    ∃ bi1 w1, SR bi1 w1 (obT C n i) (ensA A n i) ∧ nd (ensA A n i) n 0 = nd A n 0 ∧ neL (obT C n i) n (i + 1) (i + 1) m ≤ fre (ensA A n i) ∧ ensA A n i 35 34 + 3 * m < 1000000 ∧ (ptC C n i = 0 → obN C n i ≤ C 10 9) ∧ neL (obT C n i) n (i + 1) (i + 1) m + neL C n i i 1 ≤ neL C n i i (m + 1) := by
  have h3 : nd A n 0 ≠ 3 := by omega
  have hi : i < 1064 := by omega
  have e0 : neL C n i i (m + 1) = neL C n i i 1 + neL C n i (i + 1) m := by
    show _ + neL C n i (i + 1) m = (_ + 0) + neL C n i (i + 1) m
    rfl
  obtain ⟨bi1, w1, g1, g2, g3, g4, g5, g6⟩ := SR_ens (i := i) h hn hkd hi (fun c => Nat.le_trans (ob_ne h hn h3 hi c) (by omega)) (by omega)
  have kd1 : nd (ensA A n i) n 0 = nd A n 0 := g2.2.2 n 0 hn (by omega)
  have h31 : nd (ensA A n i) n 0 ≠ 3 := by omega
  have zp : ∀ j, j < 1064 → ((ptC C n j = 0 ↔ slo A n j = 0) ∧ (8 ≤ j → (tbC C n j = 0 ↔ slo A n (pa j) = 0))) ∧ (nwC C n 10 = 0 ↔ slo A n 2001 = 0) := fun j hj => by
    obtain ⟨p1, p2, p3, p4⟩ := pt_c h.ok h.ti h.mr hn h3 hj
    refine ⟨⟨by rw [p1, pv_0, hs_slo hj], fun h8 => by rw [p2 h8, pv_0, lf_slo h8 hj]⟩, by rw [p4, pv_0]; rfl⟩
  have zq : ∀ j, j < 1064 → ((ptC (obT C n i) n j = 0 ↔ slo (ensA A n i) n j = 0) ∧ (8 ≤ j → (tbC (obT C n i) n j = 0 ↔ slo (ensA A n i) n (pa j) = 0))) ∧ (nwC (obT C n i) n 10 = 0 ↔ slo (ensA A n i) n 2001 = 0) := fun j hj => by
    obtain ⟨p1, p2, p3, p4⟩ := pt_c g1.ok g1.ti g1.mr hn h31 hj
    refine ⟨⟨by rw [p1, pv_0, hs_slo hj], fun h8 => by rw [p2 h8, pv_0, lf_slo h8 hj]⟩, by rw [p4, pv_0]; rfl⟩
  have v1 : vs 2001 := by unfold vs; omega
  have kp : ∀ s', vs s' → slo (ensA A n i) n s' = 0 → slo A n s' = 0 := fun s' hv q => Classical.byContradiction (fun c => c (by rw [← g4 n s' hn hv c]; exact q))
  have vpa : ∀ j, 8 ≤ j → j < 1064 → vs (pa j) := fun j h8 hj => (slo_n (A := A) (n := n) (Or.inl hj) (rs_i h8 hj)).2.1
  have mono : neL (obT C n i) n (i + 1) (i + 1) m ≤ neL C n i (i + 1) m := by
    refine ne_mono (fun a b => ?_) (fun a b => ?_) (fun b => ?_) m (i + 1) (Nat.le_refl _) (fun j a b => ⟨fun q => ?_, fun h8 q => ?_⟩)
    · refine Classical.byContradiction (fun c => ?_)
      by_cases hm : i + 1 < 1064
      · rw [((zq (i + 1) hm).1.2 a)] at b
        have e : pa (i + 1) = pa i := by
          unfold pa
          rw [if_neg (show ¬ 2100 ≤ i + 1 by omega), if_neg (show ¬ 2100 ≤ i by omega)]
          by_cases c2 : i + 1 < 40
          · rw [if_pos c2, if_pos (show i < 40 by omega)]
          · rw [if_neg c2, if_neg (show ¬ i < 40 by omega)]
            omega
        rw [e] at b
        exact slo_pa (Or.inl hi) (rs_i (by omega) hi) g3 b
      · omega
    · refine Classical.byContradiction (fun c => ?_)
      rw [(zq i hi).2] at b
      have q1 := slo_pa (Or.inl hi) (rs_i (by omega) hi) g3
      have e : pa i = 2100 + (i - 40) / 32 := by
        unfold pa
        rw [if_neg (by omega), if_neg (by omega)]
      have q2 := slo_pa (vpa i (by omega) hi) (by rw [e]; exact decide_eq_false (by omega)) q1
      rw [e, show pa (2100 + (i - 40) / 32) = 2001 by unfold pa; rw [if_pos (by omega)]] at q2
      exact q2 b
    · exact (zp i hi).2.mpr (kp 2001 v1 ((zq i hi).2.mp b))
    · exact (zp j (by omega)).1.1.mpr (kp j (Or.inl (by omega)) ((zq j (by omega)).1.1.mp q))
    · exact ((zp j (by omega)).1.2 h8).mpr (kp _ (vpa j h8 (by omega)) (((zq j (by omega)).1.2 h8).mp q))
  have kle : (if hasA A n i = 0 then obN C n i else 0) ≤ neL C n i i 1 ∧ (if hasA A n i = 0 then obN C n i else 0) ≤ 3 := by
    by_cases c : hasA A n i = 0
    · rw [if_pos c]
      refine ⟨ob_ne h hn h3 hi c, ?_⟩
      unfold obN
      split <;> split <;> omega
    · rw [if_neg c]
      omega
  have gf := g6.1
  refine ⟨bi1, w1, g1, kd1, ?_, ?_, fun q => ?_, by omega⟩
  · have := g6.1
    omega
  · have := g6.2.2.1
    omega
  · have f9 := fre_c h.rk.2.1 h.zm
    have q1 := (zp i hi).1.1.mp q
    rw [hs_slo hi] at q1
    have := ob_ne h hn h3 hi q1
    omega
theorem mr108 {x3 : Int32} (hn : n < 64) (hu : 3000 ≤ fu) {last : Nat} (hl : last < 1064) : ∀ m i f (σ : tM) (bi : Nat → Nat) (w : Nat → Nat × Nat) (C A : tS), CM b0 σ C D → SR bi w C A → nd A n 0 = 1 → i + m = last + 1 → neL C n i i m ≤ fre A → A 35 34 + 3 * m < 1000000 → m < f → wp (FC b0) σ (L_X10_makeReady_108 b0 fu f (b0 + 0) (nI n) x3 (nI last) (nI i) σ) (fun v τ => v = x3 ∧ CM b0 τ (obLp n i m C) D) := by
  intro m
  induction m with
  | zero =>
    intro i f σ bi w C A h S n2 him hne h34 hf
    obtain ⟨f, rfl⟩ : ∃ g, f = g + 1 := ⟨f - 1, by omega⟩
    unfold L_X10_makeReady_108
    rw [ltb_def, if_t (by omega) (by omega), if_pos (by omega)]
    exact wp_ret ((FC_good b0).1 _) ⟨rfl, h⟩
  | succ m ih =>
    intro i f σ bi w C A h S n2 him hne h34 hf
    obtain ⟨f, rfl⟩ : ∃ g, f = g + 1 := ⟨f - 1, by omega⟩
    have L := h.lay
    obtain ⟨bi1, w1, g1, g2, g3, g4, g5, -⟩ := ne_step S hn (Or.inl n2) (by omega) hne h34
    have b15 := (S.bj.1 0).2
    unfold L_X10_makeReady_108
    rw [ltb_def, if_t (by omega) (by omega), if_neg (by omega), ckC_0 L, osm_p (rfC_0_2 L), ckC_18 L]
    refine wp_bind (FC_good b0) (obt_c (fu := fu) h S.rk.1 S.rk.2.1 g5 hn (by omega) (by omega) hu) ?_
    intro _ ρ c
    rw [ltb_def, ofi]
    exact ih (i + 1) f ρ bi1 w1 _ _ c g1 (by rw [g2]; exact n2) (by omega) g3 g4 (by omega)
/-- the size grows -/
theorem sz_36 {j : Nat} (h : nd A n 1 < l) : szA A n l 36 j = if j = n * 95 + 1 then l else A 36 j := by
  unfold szA
  rw [if_neg (by omega), if_pos h]
  have e : zb (up2 (setN A n 1 l) 50 n 1) n (nd A n 1) 36 = up2 (setN A n 1 l) 50 n 1 36 := by
    unfold zb
    split
    · exact zt_o (by decide) (by decide) _ _ _
    · rfl
  rw [e, up2_o (by decide), sN_36]
def mr1 (C : tS) (n a l : Nat) : tS := if a + l ≤ szC C n then C else reC C n (a + l)
def mrB (C : tS) (n a l : Nat) : tS := obLp n (a / 256) ((a + l - 1) / 256 + 1 - a / 256) (mr1 C n a l)
theorem by1_fx (S : SR bi w C A) (P : PH t w A) (hn : n < 64) (n2 : nd A n 0 = 1) (hl : a + l ≤ 272384) : SR bi w (mr1 C n a l) (by1 n a l A) ∧ PH t w (by1 n a l A) ∧ KP A (by1 n a l A) ∧ (∀ k m, nee (by1 n a l A) n k m = nee A n k m) ∧ fre (by1 n a l A) = fre A ∧ (by1 n a l A) 35 34 = A 35 34 ∧ nd (by1 n a l A) n 0 = 1 ∧ a + l ≤ nd (by1 n a l A) n 1 := by
  have sz : szC C n = nd A n 1 := by
    have := ((hd_c S.ok S.mr hn).2 (by omega)).2.2
    rw [this, if_neg (by omega)]
  have b1 := (nd_k S.ok hn).2.1
  unfold mr1 by1
  rw [sz]
  by_cases c : a + l ≤ nd A n 1
  · rw [if_pos c, if_pos c]
    exact ⟨S, P, KP_r, fun _ _ => rfl, rfl, rfl, n2, c⟩
  · rw [if_neg c, if_neg c]
    obtain ⟨g1, g2⟩ := PH_sz (sz := a + l) S P hn n2 hl
    obtain ⟨-, -, -, -, g5, g6, g7, -⟩ := SR_sz (sz := a + l) S hn n2 hl (P.file hn n2)
    have e36 : ∀ j, szA A n (a + l) 36 j = if j = n * 95 + 1 then a + l else A 36 j := fun j => sz_36 (by omega)
    refine ⟨g1, g2, KP_sz hn (by omega), (nee_ptr (fun i h1 h2 => ?_) (fun r k => ?_)).2, g7, g6 34, ?_, ?_⟩
    · unfold nd
      rw [e36, if_neg (by omega)]
    · unfold pt
      rw [e36, if_neg (by omega)]
    · rw [g5 n 0 hn (by omega), if_neg (by omega)]
      exact n2
    · rw [g5 n 1 hn (by omega), if_pos ⟨rfl, rfl⟩]
      exact Nat.le_refl _
theorem pa_ge : 2000 ≤ pa k := by
  unfold pa
  split
  · omega
  · split <;> omega
/-- blocks for the bytes -/
theorem rdy_fx (S : SR bi w C A) (P : PH t w A) (hn : n < 64) (n2 : nd A n 0 = 1) (hl : a + l ≤ 272384) (h1 : 1 ≤ l) (hl2 : l ≤ 16384) (hne : nee A n (a / 256) ((a + l - 1) / 256) ≤ fre A) (h34 : A 35 34 + 300 < 1000000) :
    ∃ bi' w', SR bi' w' (mrB C n a l) (by2 n a l A) ∧ (∀ x, bi x ≠ 0 → bi' x = bi x) ∧ PH t w' (by2 n a l A) ∧ KP A (by2 n a l A) ∧ nd (by2 n a l A) n 0 = 1 ∧ ∀ k, k < l → hasA (by2 n a l A) n ((a + k) / 256) ≠ 0 := by
  obtain ⟨b1, b2, b3, b4, b5, b6, b7, b8⟩ := by1_fx S P hn n2 hl
  have ne := ne_eq (fr := a / 256) (to := (a + l - 1) / 256) b1 hn (by omega) (by omega) (by omega)
  obtain ⟨bi', w', k, g1, g2, g3, g4, g5, g6, g7, g8, g9⟩ := SR_enL hn ((a + l - 1) / 256 + 1 - a / 256) (a / 256) bi w (mr1 C n a l) (by1 n a l A) b1 (Or.inl b7) (by omega) (by rw [ne, b4, b5]; exact hne) (by rw [b6]; omega)
  have kp : KP A (by2 n a l A) := KP_t b3 (KP_enL hn _ _ _ (by omega))
  have k0 : nd (by2 n a l A) n 0 = 1 := (g2.2.2 n 0 hn (by omega)).trans b7
  have kz : nd (by2 n a l A) n 1 = nd (by1 n a l A) n 1 := g2.2.2 n 1 hn (by omega)
  refine ⟨bi', w', g1, g2.1, ?_, kp, k0, fun k hk => ?_⟩
  · refine PH_file b2 hn b7 g1.ok g1.ti (g8 b2.tf) (KP_enL hn _ _ _ (by omega)) (fun n' p q => g2.2.2 n' 1 p (by omega)) (fun n' s' p q r => ?_) (fun i hi q => ?_)
    · by_cases c : slo (by1 n a l A) n' s' = 0
      · rw [c]
        exact Classical.byContradiction (fun y => r (g5 n' s' p q c y).1)
      · exact g4 n' s' p q c
    · have q : nd (by2 n a l A) n 1 ≤ 256 * i := q
      rw [kz] at q
      have z := b2.file hn b7 i hi q
      rw [← hs_slo hi] at z ⊢
      refine Classical.byContradiction (fun y => ?_)
      obtain ⟨-, j, j1, j2, j3⟩ := g5 n i hn (Or.inl hi) z y
      have ji : i = j := by
        rcases j3 with j3 | ⟨_, j3⟩ | ⟨_, _, j3⟩
        · exact j3
        · have := pa_ge (k := j)
          omega
        · have := pa_ge (k := pa j)
          omega
      omega
  · have := g3 ((a + k) / 256) (by omega) (by omega)
    rw [hs_slo (by omega)] at this
    exact this
def mrV (A : tS) (n a l : Nat) : Int := if 272384 < a + l then -7 else if l = 0 then 0 else if nee A n (a / 256) ((a + l - 1) / 256) ≤ fre A then (l : Int) else -6
theorem makeReady_c (hu : 10000 ≤ fu) (h : CM b0 σ C D) (S : SR bi w C A) (P : PH t w A) (hn : n < 64) (n2 : nd A n 0 = 1) (ha : a < 2147483648) (hl2 : l ≤ 16384) (h34 : A 35 34 + 300 < 1000000) : wp (FC b0) σ (m_X10_makeReady b0 fu (b0 + 0) (nI n) (nI a) (nI l) σ) (fun v τ => v = iz (mrV A n a l) ∧ CM b0 τ (if 0 < mrV A n a l then mrB C n a l else C) D) := by
  have L := h.lay
  refine wp_grw (FC_good b0) ?_
  unfold J_X10_makeReady_12 J_X10_makeReady_104
  have sc := sum_cmp (a := a) (b := l) ha (by omega)
  rw [if_neg (neg_nI (by omega)), if_neg (neg_nI ha), if_pos (iz_neg (by omega))]
  by_cases c1 : a + l ≤ 272384
  · rw [if_pos (sc.mpr c1)]
    show wp (FC b0) σ (if nI l = nI 0 then _ else _) _
    rw [if_e (by omega) (by omega)]
    by_cases c2 : l = 0
    · have e : mrV A n a l = 0 := by
        unfold mrV
        rw [if_neg (by omega), if_pos c2]
      rw [if_pos c2, e, if_neg (by decide)]
      exact wp_ret ((FC_good b0).1 _) ⟨rfl, h⟩
    have sz : szC C n = nd A n 1 := by
      have := ((hd_c S.ok S.mr hn).2 (by omega)).2.2
      rw [this, if_neg (by omega)]
    have ne := ne_eq (fr := a / 256) (to := (a + l - 1) / 256) S hn (by omega) (by omega) (by omega)
    have f9 := fre_c S.rk.2.1 S.zm
    have bf := cb_10 h.ca 9
    have nb : nee A n (a / 256) ((a + l - 1) / 256) ≤ 3 * ((a + l - 1) / 256 + 1 - a / 256) := ndL_le A n _ _ _ _ _
    rw [if_neg c2, ltb_def, ltb_def, nI_add, show nI (a + l) - (1 : Int32) = nI (a + l - 1) from nI_sb (b := 1) (by omega), show nI (a + l - 1) / (256 : Int32) = nI ((a + l - 1) / 256) from nI_dv (d := 256) (by omega) (by omega) (by omega), show nI a / (256 : Int32) = nI (a / 256) from nI_dv (d := 256) (by omega) (by omega) (by omega), ckC_0 L, osm_p (rfC_0_2 L), ckC_18 L, needs_c h.ca hn (by omega) (by omega) hu, cll_some, ckC_0 L, osm_p (rfC_0_1 L), ckC_10 L, cf_10_9 h.ca, ne, f9, if_l (by omega) (by omega)]
    by_cases c3 : nee A n (a / 256) ((a + l - 1) / 256) ≤ fre A
    · have e : mrV A n a l = (l : Int) := by
        unfold mrV
        rw [if_neg (by omega), if_neg c2, if_pos c3]
      rw [if_pos c3, osm_p (rfC_0_2 L), ckC_18 L, size_c h.ca hn, cll_some, sz, e, if_pos (show (0 : Int) < (l : Int) by omega), iz_n]
      obtain ⟨b1, b2, b3, b4, b5, b6, b7, b8⟩ := by1_fx (l := l) S P hn n2 c1
      have ne1 := ne_eq (fr := a / 256) (to := (a + l - 1) / 256) b1 hn (by omega) (by omega) (by omega)
      have b1n := (nd_k S.ok hn).2.1
      have fin : ∀ ρ, CM b0 ρ (mr1 C n a l) D → wp (FC b0) ρ (L_X10_makeReady_108 b0 fu fu (b0 + 0) (nI n) (nI l) (nI ((a + l - 1) / 256)) (nI (a / 256)) ρ) (fun v τ => v = nI l ∧ CM b0 τ (mrB C n a l) D) := fun ρ c => mr108 (fu := fu) hn (by omega) (by omega) _ _ fu ρ bi w _ _ c b1 b7 (by omega) (by rw [ne1, b4, b5]; exact c3) (by rw [b6]; omega) (by omega)
      rw [if_l (by omega) (by omega)]
      by_cases c4 : a + l ≤ nd A n 1
      · rw [if_pos c4]
        refine fin σ ?_
        unfold mr1
        rw [sz, if_pos c4]
        exact h
      · rw [if_neg c4, ckC_0 L, osm_p (rfC_0_2 L), ckC_18 L]
        refine wp_bind (FC_good b0) (resize_c (fu := fu) h S.rk hn c1 (sz_le S hn) (by omega)) ?_
        intro _ ρ c
        refine fin ρ ?_
        unfold mr1
        rw [sz, if_neg c4]
        exact c
    · have e : mrV A n a l = -6 := by
        unfold mrV
        rw [if_neg (by omega), if_neg c2, if_neg c3]
      rw [if_neg c3, e, if_neg (by decide)]
      exact wp_ret ((FC_good b0).1 _) ⟨rfl, h⟩
  · have e : mrV A n a l = -7 := by
      unfold mrV
      rw [if_pos (by omega)]
    rw [if_neg (fun y => c1 (sc.mp y)), e, if_neg (by decide)]
    exact wp_ret ((FC_good b0).1 _) ⟨rfl, h⟩
end RDY
