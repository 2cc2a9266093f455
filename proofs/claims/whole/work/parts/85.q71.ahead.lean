/-! ===== PURE: demandPower, postAhead, in both ===== -/
/-- how a method's first step ends -/
def UZ (Φ : tPh) (b0 : Nat) (bi : Nat → Nat) (w : Nat → Nat × Nat) (D : tD) (K e o : Nat) (v : Unit ⊕ Unit) (τ : tM) (X : tP ⊕ tP) : Prop := match X with
  | .inl s => v = .inl () ∧ ∃ sp C' D', CM b0 τ C' D' ∧ RO Φ bi sp w C' D' s.1 s.2 ∧ EL D D' e o ∧ dsk s.1 K
  | .inr s => v = .inr () ∧ ∃ sp C' D', CM b0 τ C' D' ∧ OF Φ bi sp C' D' s.1 s.2 ∧ EL D D' 6 1
section AHD
variable {Φ : tPh} {b0 fu : Nat} {σ τ : tM} {bi sp : Nat → Nat} {w : Nat → Nat × Nat} {C C' : tS} {D D' D'' : tD} {A B : tS} {J J' : tJ} {K n m k sz un x : Nat}
theorem ap1_r : ∀ j i k m (A B : tS), ap1 J k m j i A = .inl B → (∀ o, o ≠ 35 → (o < 39 ∨ 46 < o) → B o = A o)
  | 0, _, _, _, A, B, h => by
    have h : (Sum.inl A : tS ⊕ tS) = .inl B := h
    cases h
    exact fun _ _ _ => rfl
  | j + 1, i, k, m, A, B, h => by
    have h : (if grv J (J.1 44 (J.1 41 k + i)) (k + 1) m then ap1 J k m j (i + 1) A else bX (verX A (J.1 44 (J.1 41 k + i)) 0 0) (ap1 J k m j (i + 1))) = .inl B := h
    by_cases c : grv J (J.1 44 (J.1 41 k + i)) (k + 1) m = true
    · rw [if_pos c] at h
      exact ap1_r j (i + 1) k m A B h
    · rw [if_neg c] at h
      by_cases e : A 35 19 = 1
      · have ex : verX A (J.1 44 (J.1 41 k + i)) 0 0 = .inr (powA A) := if_pos e
        rw [ex] at h
        cases h
      · have ex : verX A (J.1 44 (J.1 41 k + i)) 0 0 = .inl (verA A (J.1 44 (J.1 41 k + i)) 0 0) := if_neg e
        rw [ex] at h
        have ih := ap1_r j (i + 1) k m _ B h
        intro o a b
        rw [ih o a b]
        exact dk_ver.1 o a b
theorem apN_r : ∀ m (A B : tS), apN J m A = .inl B → (∀ o, o ≠ 35 → (o < 39 ∨ 46 < o) → B o = A o)
  | 0, A, B, h => by
    have h : (Sum.inl A : tS ⊕ tS) = .inl B := h
    cases h
    exact fun _ _ _ => rfl
  | m + 1, A, B, h => by
    have h : bX (applyX A J) (apN J m) = .inl B := h
    cases e : ap1 J (A 35 30 - A 35 35) (A 35 29 - A 35 30 - 1) (J.1 42 (A 35 30 - A 35 35)) 0 A with
    | inr X =>
      have ax : applyX A J = .inr X := by unfold applyX; rw [e]; rfl
      rw [ax] at h
      cases h
    | inl X =>
      have ax : applyX A J = .inl (up2 X 35 30 (A 35 30 + 1)) := by unfold applyX; rw [e]; rfl
      rw [ax] at h
      have ih := apN_r m _ B h
      have x := ap1_r _ _ _ _ A X e
      intro o a b
      rw [ih o a b, up2_rown a, x o a b]
theorem ck_r (jo : JO A J) (hd : dsk A (K + 2100006)) (hj : ∀ s, flushX A J = .inl s → JO s.1 s.2 ∧ ∀ B, apN s.2 (s.1 35 29 - s.1 35 30) s.1 = .inl B → (dsk B (K + 4) ∧ JO B s.2) ∧ ∀ s2, flushX B s.2 = .inl s2 → JO s2.1 s2.2) {s : tP} (h : checkX A J = .inl s) : ∀ o, o ≠ 35 → o ≠ 49 → (o < 39 ∨ 46 < o) → s.1 o = A o := by
  unfold checkX at h
  cases x1 : flushX A J with
  | inr s1 =>
    rw [x1] at h
    cases h
  | inl s1 =>
    rw [x1] at h
    have h : ck2X s1.1 s1.2 = .inl s := h
    obtain ⟨d1, k28, k29, k30, k32, k35, k31, kq, kr⟩ := flX_f (K := K + 2100004) hd jo x1
    obtain ⟨j1, j2⟩ := hj s1 x1
    unfold ck2X at h
    cases x2 : apN s1.2 (s1.1 35 29 - s1.1 35 30) s1.1 with
    | inr B =>
      rw [x2] at h
      cases h
    | inl B =>
      rw [x2] at h
      have h : bP (flushX B s1.2) (fun s2 => flushX s2.1 s2.2) = .inl s := h
      have br := apN_r _ _ _ x2
      obtain ⟨⟨j3, j4⟩, j5⟩ := j2 B x2
      cases x3 : flushX B s1.2 with
      | inr s2 =>
        rw [x3] at h
        cases h
      | inl s2 =>
        rw [x3] at h
        have h : flushX s2.1 s2.2 = .inl s := h
        obtain ⟨d2, m28, m29, m30, m32, m35, m31, mq, mr⟩ := flX_f (K := K + 2) j3 j4 x3
        obtain ⟨d3, n28, n29, n30, n32, n35, n31, nq, nr⟩ := flX_f (K := K) d2 (j5 s2 x3) h
        intro o a b c
        rw [nr o a b c, mr o a b c, br o a c, kr o a b c]
theorem ck_rows (hΦ : goodT Φ) (hok : ∀ w A, Φ w A → okT A) (h : CM b0 σ C D) (hR : RO Φ bi sp w C D A J) (hd : dsk A (K + 2100006)) {s : tP} (e : checkX A J = .inl s) : ∀ o, o ≠ 35 → o ≠ 49 → (o < 39 ∨ 46 < o) → s.1 o = A o := by
  refine ck_r (K := K) hR.1.2.1.2.2.1 hd (fun s1 e1 => ?_) e
  obtain ⟨ρ1, C1, D1, a1, a2⟩ := fl_RO (K := K + 2100004) hΦ hok h hR hd e1
  have jo1 := a2.1.2.1.2.2.1
  refine ⟨jo1, fun B eB => ?_⟩
  obtain ⟨d1, k28, k29, k30, k32, k35, k31, -, -⟩ := flX_f (K := K + 2100004) hd hR.1.2.1.2.2.1 e1
  have jo1' := jo1
  unfold JO at jo1'
  obtain ⟨v, τ, -, -, q⟩ := applySome_c (fu := 3000) (K := K + 4) (most := 1000000) hΦ hok (by omega) (by omega) a1 a2 (dsk_le d1 (by omega))
  rw [show min 1000000 (s1.1 35 29 - s1.1 35 30) = s1.1 35 29 - s1.1 35 30 by omega, eB] at q
  obtain ⟨-, C2, D2, q1, q2, -, q4⟩ := q
  refine ⟨⟨q4, q2.1.2.1.2.2.1⟩, fun s2 e2 => ?_⟩
  obtain ⟨ρ3, C3, D3, b1, b2⟩ := fl_RO (K := K + 2) hΦ hok q1 q2 q4 e2
  exact b2.1.2.1.2.2.1
theorem ck_tc (hΦ : goodT Φ) (hok : ∀ w A, Φ w A → okT A) (h : CM b0 σ C D) (hR : RO Φ bi sp w C D A J) (hd : dsk A (K + 2100006)) (s : tP) (e : checkX A J = .inl s) : tcA s.1 = tcA A ∧ rcA s.1 = rcA A := by
  have r := ck_rows (K := K) hΦ hok h hR hd e
  unfold tcA rcA
  rw [r 51 (by decide) (by decide) (by decide), r 52 (by decide) (by decide) (by decide)]
  exact ⟨rfl, rfl⟩
/-- something is made that nothing leads to: the relation stays -/
theorem dk_r : dkO A A := ⟨fun _ _ _ => rfl, fun _ _ _ _ _ _ _ => rfl⟩
theorem OF_ad (hΦ : goodT Φ) (hok : ∀ w A, Φ w A → okT A) {x y : Nat} (h : OF Φ bi sp C D A J) : OF Φ bi sp C (adE D x y) A J :=
  ⟨CO_disk hΦ hok h.1 h.1.1 (cO_r C) (JP_ad (JP_r D)) dk_r h.1.2.2.2.2.1 h.1.2.2.2.2.2.1 h.1.2.2.2.2.2.2.1, h.2⟩
theorem EL_ad {x y : Nat} : EL D (adE D x y) x y := by
  have e1 : dE (adE D x y) = dE D + x := rfl
  have e2 : dO (adE D x y) = dO D + y := rfl
  have k : kpn (adE D x y) = kpn D := rfl
  unfold EL
  rw [e1, e2, k]
  exact ⟨by omega, by omega⟩
theorem power_on (h : CM b0 σ C D) (hR : RO Φ bi sp w C D A J) : m_X0_demandPower b0 fu (b0 + 1) σ = some (.inl (), σ) := by
  have e14 : C 1 14 = 1 := by
    rw [hR.1.1.1.2.2.2.2.2.2]
    exact hR.2.2.2.2.2.2.1
  unfold m_X0_demandPower
  rw [ckC_1 h.lay, cf_1_14 h.ca, e14]
  show grw σ (if nI 1 = nI 0 then _ else _) = _
  rw [if_e (by omega) (by omega), if_neg (by omega)]
  exact grw_same
theorem power_off (hΦ : goodT Φ) (hok : ∀ w A, Φ w A → okT A) (h : CM b0 σ C D) (hR : OF Φ bi sp C D A J) : wp (FC b0) σ (m_X0_demandPower b0 fu (b0 + 1) σ) (fun v τ => v = .inr () ∧ CM b0 τ C (adE D 6 1) ∧ OF Φ bi sp C (adE D 6 1) A J ∧ EL D (adE D 6 1) 6 1) := by
  have e14 : C 1 14 = 0 := by
    rw [hR.1.1.1.2.2.2.2.2.2]
    exact hR.2.1
  refine wp_grw (FC_good b0) ?_
  rw [ckC_1 h.lay, cf_1_14 h.ca, e14]
  show wp (FC b0) σ (if nI 0 = nI 0 then _ else _) _
  rw [if_pos rfl]
  exact wp_ret (FC_new h.rf h.lay.1) ⟨rfl, CM_new (k := .inl 12) (n := 6) h, OF_ad hΦ hok hR, EL_ad⟩
/-- postAhead, with power -/
theorem postAhead_on (hΦ : goodT Φ) (hok : ∀ w A, Φ w A → okT A) (hu : 5000 ≤ fu) (h : CM b0 σ C D) (hR : RO Φ bi sp w C D A J) {K2 : Nat} (hd : dsk A K2) (hK : K + 4096 + 2100006 ≤ K2) (hg : gsA A ≤ A 35 6) (hun : un < 1000000000) (hst : A 35 34 + 1 < 1000000) (hl : A 35 28 + 1 < 1000) :
    wp (FC b0) σ (m_X1_postAhead b0 fu (b0 + 20) σ) (fun v τ => UZ Φ b0 bi w D K (8 + 36 * tcA A + rcA A) (4 + 2 * tcA A) v τ (uaX A J un)) := by
  have L := h.lay
  have jr := hR.1.2.1
  have jo := jr.2.2.1
  unfold JO at jo
  have on := hR.2.2.2.2.2.2.1
  have ux : uaX A J un = if gsA A ≤ A 35 6 / 2 then .inl (A, J) else cmX A J un := by
    unfold uaX paX
    rw [if_neg (by omega)]
  have ge := gs_eq hR.2.1
  have P := postGroup_c (K := K) (K2 := K2) (un := un) hΦ hok hu h hR hd hK (fun s e => ck_tc (K := K + 4096) hΦ hok h hR (dsk_le hd hK) s e) hg hun hst hl
  refine wp_grw (FC_good b0) ?_
  rw [ckC_20 L, osm_p (rfC_20_0 L), ckC_1 L, power_on h hR]
  show wp (FC b0) σ (ckO b0 σ (b0 + 20) 1 _) _
  rw [ckC_20 L, osm_p (rfC_20_1 L), ckC_10 L, groupSize_c h.ca hR.2.1.rk.1, cll_some, ge, ckC_20 L, cf_20_8 h.ca, jr.1.1, show nI (A 35 6) / (2 : Int32) = nI (A 35 6 / 2) from nI_dv (d := 2) (by omega) (by omega) (by omega), ux]
  clear ux ge
  generalize gsA A = gz at *
  rw [if_l (by omega) (by omega)]
  unfold J_X1_postAhead_28
  by_cases c : gz ≤ A 35 6 / 2
  · rw [if_pos c, if_pos c]
    exact wp_ret ((FC_good b0).1 _) ⟨rfl, sp, C, D, h, hR, EL_le (EL_of (EP_r D)) (by omega) (by omega), dsk_le hd (by omega)⟩
  · rw [if_neg c, if_neg c]
    rw [if_neg (show ¬ gz = 0 by omega)] at P
    generalize cmX A J un = X at *
    cases X with
    | inl s =>
      refine wp_clx (FC_good b0) P (fun v ρ q => ?_) (fun ρ q => by cases q.1)
      exact wp_ret ((FC_good b0).1 _) ⟨rfl, q.2⟩
    | inr s =>
      refine wp_clx (FC_good b0) P (fun v ρ q => by cases q.1) (fun ρ q => ?_)
      exact ⟨rfl, q.2⟩
/-- postAhead, without -/
theorem postAhead_off (hΦ : goodT Φ) (hok : ∀ w A, Φ w A → okT A) (h : CM b0 σ C D) (hR : OF Φ bi sp C D A J) : wp (FC b0) σ (m_X1_postAhead b0 fu (b0 + 20) σ) (fun v τ => UZ Φ b0 bi w D K n m v τ (uaX A J un)) := by
  have L := h.lay
  have ux : uaX A J un = .inr (A, J) := by
    unfold uaX
    rw [if_pos hR.2.1]
  rw [ux]
  refine wp_grw (FC_good b0) ?_
  rw [ckC_20 L, osm_p (rfC_20_0 L), ckC_1 L]
  refine wp_clx (FC_good b0) (power_off (fu := fu) hΦ hok h hR) (fun v ρ q => by cases q.1) (fun ρ q => ?_)
  exact ⟨rfl, sp, C, _, q.2.1, q.2.2.1, q.2.2.2⟩
end AHD
